import java.io.IOException;
import java.lang.reflect.Method;
import java.lang.reflect.Modifier;
import java.nio.file.Files;
import java.nio.file.Path;
import java.util.Set;
import java.util.TreeSet;
import java.util.regex.Matcher;
import java.util.regex.Pattern;

/** The calls in README.md answer what stands behind them there, and every call of the face is told there. */
public final class ReadmeTest {
    /** For example: shelf.feed(word("cats")); // 1: .. */
    private static final Pattern CALL =
        Pattern.compile("shelf\\.(\\w+)\\((?:word\\(\"([a-z]+)\"\\)|(-?\\d+))?\\);\\s+// (-?\\d+|true|false)\\b.*");

    public static void main(String[] args) throws IOException, ReflectiveOperationException {
        Check check = new Check();
        PostingShelf shelf = new PostingShelf();
        String text = Files.readString(Path.of("README.md"));
        Set<String> played = new TreeSet<>();
        for (String line : text.split("\n")) {
            Matcher call = CALL.matcher(line);
            if (call.matches()) {
                String due = call.group(4);
                long want = due.equals("true") ? 1 : due.equals("false") ? 0 : Long.parseLong(due);
                check.due("README.md, " + line, answer(shelf, call), want);
                played.add(call.group(1));
            } else {
                check.due("README.md, a call that can be played: " + line, line.startsWith("shelf."), false);
            }
        }
        check.due("README.md plays some calls", played.size() > 10, true);
        for (Method method : PostingShelf.class.getDeclaredMethods()) {
            String name = method.getName();
            boolean isOfFace = Modifier.isPublic(method.getModifiers());
            check.due("README.md tells " + name, !isOfFace || text.contains("`" + name + "("), true);
        }
        check.end();
    }

    private static long answer(PostingShelf shelf, Matcher call) throws ReflectiveOperationException {
        String name = call.group(1);
        Object answer;
        if (call.group(2) != null) {
            answer = PostingShelf.class.getMethod(name, long.class).invoke(shelf, Check.word(call.group(2)));
        } else if (call.group(3) != null) {
            answer = PostingShelf.class.getMethod(name, int.class).invoke(shelf, Integer.parseInt(call.group(3)));
        } else {
            answer = PostingShelf.class.getMethod(name).invoke(shelf);
        }
        return answer instanceof Boolean yes ? (yes ? 1 : 0) : ((Number) answer).longValue();
    }
}
