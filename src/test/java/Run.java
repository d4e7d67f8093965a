import java.lang.reflect.Method;
import java.lang.reflect.Modifier;

/**
 * A run of calls on a new object, written as a text: calls parted by ';', and behind a '=' the answers that are due.
 * A call with several arguments stands for one call with each of them; one answer is then due from all of these calls,
 * or as many answers as calls. A word is written in letters, or as a number. Besides the calls of the face there are
 * 'put 3 red dog' (feeds the words, adds document 3), 'holds red dog = 0 2' (finds the term, or the phrase if there
 * are several words, and tells all ids), 'results = 0:144 2' and 'sizes = 0 1 ..' (from size(0) on).
 *
 * The plain model gets the same calls, and must answer as due too: so a wrong due answer is found out.
 */
final class Run {
    /** Behind these an object answers what it likes. */
    private static final int MOST_CALLS = 512;
    /** There are twelve results at most; a class that tells more without an end must not keep the test. */
    private static final int MORE_THAN_ALL = 14;
    /** No call answers so. */
    private static final long THREW = -99;

    private final Check check;
    private final String title;
    private final PostingShelf shelf = new PostingShelf();
    private final Model model = new Model();
    private final StringBuilder answers = new StringBuilder();
    private int calls = 0;

    private Run(Check check, String title) {
        this.check = check;
        this.title = title;
    }

    static void play(Check check, String title, String text) {
        Run run = new Run(check, title);
        run.make(text);
        run.end();
    }

    /** Calls that are refused leave all that can be seen, and all that later calls tell, as without them. */
    static void changesNothing(Check check, String title, String before, String refused, String... laters) {
        for (String later : laters) {
            Run without = new Run(check, title);
            Run with = new Run(check, title);
            without.make(before);
            with.make(before + ";" + refused);
            dueSame(check, title + " behind " + refused, with.state(), without.state());
            without.answers.setLength(0);
            with.answers.setLength(0);
            without.make(later);
            with.make(later);
            dueSame(check, title + " behind " + refused + " then " + later,
                with.answers + with.state(), without.answers + without.state());
            without.end();
            with.end();
        }
    }

    private static void dueSame(Check check, String call, String got, String want) {
        if (!got.equals(want)) {
            System.out.println(call + ": with the refused calls " + got + ", without them " + want);
        }
        check.due(call, got.equals(want), true);
    }

    private void end() {
        check.due(title + " a run of at most 512 calls", calls <= MOST_CALLS, true);
    }

    private void make(String text) {
        for (String each : text.split(";")) {
            if (!each.isBlank()) {
                makeOne(each.strip());
            }
        }
    }

    private void makeOne(String text) {
        String[] sides = text.split("=", 2);
        String[] parts = sides[0].strip().split(" +");
        String dues = sides.length > 1 ? sides[1].strip() : null;
        switch (parts[0]) {
            case "put": put(parts, dues); break;
            case "holds": holds(parts, text, dues); break;
            case "results": dueText(text, results(), dues); break;
            case "sizes": dueText(text, sizes(dues.split(" +").length), dues); break;
            default: makeEach(parts, dues);
        }
    }

    private void makeEach(String[] parts, String dues) {
        String[] row = dues == null ? new String[0] : dues.split(" +");
        int made = Math.max(1, parts.length - 1);
        for (int i = 0; i < made; i++) {
            String argument = parts.length > 1 ? parts[i + 1] : "";
            call(parts[0], argument, row.length == 0 ? null : row[row.length == 1 ? 0 : i]);
        }
        check.due(title + " as many answers as calls", row.length <= 1 || row.length == made, true);
    }

    private void put(String[] parts, String dues) {
        for (int i = 2; i < parts.length; i++) {
            call("feed", parts[i], null);
        }
        call("add", parts[1], dues);
    }

    private void holds(String[] parts, String text, String dues) {
        for (int i = 1; i < parts.length; i++) {
            call("term", parts[i], null);
        }
        if (parts.length > 2) {
            call("phrase", Integer.toString(parts.length - 1), null);
        }
        call("find", "", null);
        dueText(text, results(), dues);
    }

    private void dueText(String call, String got, String want) {
        if (!got.equals(want)) {
            System.out.println(title + " " + call + " told " + got);
        }
        check.due(title + " " + call, got.equals(want), true);
        answers.append(got).append('|');
    }

    private String results() {
        StringBuilder row = new StringBuilder();
        long id = call("result", "0", null);
        for (int i = 0; id != -1 && i < MORE_THAN_ALL; i++) {
            long weight = call("weight", Integer.toString(i), null);
            row.append(i == 0 ? "" : " ").append(id).append(weight == 0 ? "" : ":" + weight);
            id = call("result", Integer.toString(i + 1), null);
        }
        return row.toString();
    }

    private String sizes(int count) {
        StringBuilder row = new StringBuilder();
        for (int i = 0; i < count; i++) {
            row.append(i == 0 ? "" : " ").append(call("size", Integer.toString(i), null));
        }
        return row.toString();
    }

    private String state() {
        return " sizes " + sizes(10) + " results " + results() + " weighed " + call("weighed", "", null);
    }

    private long call(String name, String argument, String due) {
        calls++;
        long got = answer(shelf, name, argument);
        long ofModel = answer(model, name, argument);
        String call = title + " call " + calls + ", " + name + "(" + argument + ")";
        check.due(call, got, due == null ? ofModel : number(due));
        check.due(call + " of the model", ofModel, due == null ? ofModel : number(due));
        answers.append(got).append(' ');
        return got;
    }

    /** Words and numbers, true and false, and the least and greatest int. */
    private static long number(String text) {
        switch (text) {
            case "true": return 1;
            case "false": return 0;
            case "MIN": return Integer.MIN_VALUE;
            case "MAX": return Integer.MAX_VALUE;
            default: return text.matches("[a-z]+") ? Check.word(text) : Long.parseLong(text);
        }
    }

    /** The class and the model have the same calls. */
    private static long answer(Object object, String name, String argument) {
        for (Method method : object.getClass().getDeclaredMethods()) {
            if (method.getName().equals(name) && !Modifier.isPrivate(method.getModifiers())) {
                return answer(object, method, argument);
            }
        }
        throw new IllegalArgumentException("no call " + name);
    }

    private static long answer(Object object, Method method, String argument) {
        try {
            Object answer = method.invoke(object, arguments(method, argument));
            return answer instanceof Boolean yes ? (yes ? 1 : 0) : ((Number) answer).longValue();
        } catch (ReflectiveOperationException thrown) {
            System.out.println(method.getName() + "(" + argument + ") threw " + thrown.getCause());
            return THREW;
        }
    }

    private static Object[] arguments(Method method, String argument) {
        if (method.getParameterCount() == 0) {
            return new Object[0];
        }
        long it = number(argument);
        return new Object[] {method.getParameterTypes()[0] == long.class ? (Object) it : (Object) (int) it};
    }
}
