import java.util.ArrayDeque;
import java.util.ArrayList;
import java.util.Comparator;
import java.util.Deque;
import java.util.HashSet;
import java.util.List;
import java.util.Set;
import java.util.TreeMap;

/** The document in its plainest form, over texts and with the Java library: what ModelTest holds the class against. */
final class Model {
    private static final Set<String> STOP_WORDS = Set.of("a", "an", "and", "in", "of", "or", "the", "to");

    private record Text(int id, List<String> terms) {
        int length() {
            return (int) terms.stream().filter(each -> !each.isEmpty()).count();
        }

        int times(String sought) {
            return (int) terms.stream().filter(each -> !each.isEmpty() && each.equals(sought)).count();
        }
    }

    private static final class Part {
        final List<Text> texts = new ArrayList<>();
        final List<Text> deleted = new ArrayList<>();
    }

    /** A query: its kind is term, phrase, both, either or not. */
    private record Query(String kind, String sought, List<Query> parts) {
        int deep() {
            return kind.equals("term") ? 0 : 1 + parts.stream().mapToInt(Query::deep).max().orElse(0);
        }

        boolean matches(Text text) {
            switch (kind) {
                case "term": return text.times(sought) > 0;
                case "both": return parts.get(0).matches(text) && parts.get(1).matches(text);
                case "either": return parts.get(0).matches(text) || parts.get(1).matches(text);
                case "not": return !parts.get(0).matches(text);
                default: return matchesPhrase(text);
            }
        }

        private boolean matchesPhrase(Text text) {
            List<String> row = new ArrayList<>();
            parts.forEach(part -> row.add(part.sought));
            return !row.contains("") && java.util.Collections.indexOfSubList(text.terms, row) >= 0;
        }
    }

    private record Result(int id, int weight) {
    }

    private List<String> draft = new ArrayList<>();
    private final TreeMap<Integer, List<Text>> pending = new TreeMap<>();
    private final List<Part> parts = new ArrayList<>();
    private final Deque<Query> stack = new ArrayDeque<>();
    private List<Result> results = new ArrayList<>();
    private int weighed = 0;
    private int blocks = 0;
    private int stopBehind = -1;
    private boolean stopped = false;

    // Words and stems.

    private static boolean isWord(long word) {
        return Check.letters(word).matches("[a-z]{1,12}") && Check.word(Check.letters(word)) == word;
    }

    /** The letters as v and c. */
    private static String pattern(String text) {
        StringBuilder pattern = new StringBuilder();
        for (int i = 0; i < text.length(); i++) {
            boolean yAsVowel = text.charAt(i) == 'y' && i > 0 && pattern.charAt(i - 1) == 'c';
            pattern.append("aeiou".indexOf(text.charAt(i)) >= 0 || yAsVowel ? 'v' : 'c');
        }
        return pattern.toString();
    }

    private static int measure(String text) {
        return (" " + pattern(text) + " ").split("vc", -1).length - 1;
    }

    static String stemOf(String word) {
        if (word.length() <= 2) {
            return word;
        }
        return third(second(first(word)));
    }

    private static String cut(String word, int letters) {
        return word.substring(0, word.length() - letters);
    }

    private static String first(String word) {
        if (word.endsWith("sses") || word.endsWith("ies")) {
            return cut(word, 2);
        }
        return word.endsWith("s") && !word.endsWith("ss") ? cut(word, 1) : word;
    }

    private static String second(String word) {
        if (word.endsWith("eed")) {
            return measure(cut(word, 3)) > 0 ? cut(word, 1) : word;
        }
        for (String ending : List.of("ed", "ing")) {
            if (word.endsWith(ending) && pattern(cut(word, ending.length())).contains("v")) {
                return mended(cut(word, ending.length()));
            }
        }
        return word;
    }

    private static String mended(String word) {
        if (word.matches(".*(at|bl|iz)")) {
            return word + "e";
        }
        if (word.matches(".*([^lsz])\\1") && pattern(word).endsWith("cc")) {
            return cut(word, 1);
        }
        boolean isShort = measure(word) == 1 && pattern(word).endsWith("cvc") && !word.matches(".*[wxy]");
        return isShort ? word + "e" : word;
    }

    private static String third(String word) {
        return word.endsWith("y") && pattern(cut(word, 1)).contains("v") ? cut(word, 1) + "i" : word;
    }

    private static String termOf(long word) {
        String letters = Check.letters(word);
        return STOP_WORDS.contains(letters) ? "" : stemOf(letters);
    }

    long stem(long word) {
        return isWord(word) ? Check.word(stemOf(Check.letters(word))) : 0;
    }

    // Draft and pending.

    int feed(long word) {
        if (stopped) {
            return -9;
        }
        if (!isWord(word) || draft.size() == 12) {
            return -1;
        }
        draft.add(termOf(word));
        return draft.size();
    }

    int add(int id) {
        if (stopped) {
            return -9;
        }
        if (id < 0 || id > 11) {
            return -1;
        }
        pending.put(id, List.of(new Text(id, draft)));
        draft = new ArrayList<>();
        return pending.size();
    }

    int delete(int id) {
        if (stopped) {
            return -9;
        }
        if (id < 0 || id > 11) {
            return -1;
        }
        pending.put(id, List.of());
        return pending.size();
    }

    // Writing.

    private List<Text> live(List<Part> among) {
        List<Text> live = new ArrayList<>();
        for (Part part : among) {
            for (Text text : part.texts) {
                if (!part.deleted.contains(text)) {
                    live.add(text);
                }
            }
        }
        live.sort(Comparator.comparingInt(Text::id));
        return live;
    }

    /** Whether the last of these blocks was written. */
    private boolean write(int count) {
        int written = stopBehind < 0 ? count : Math.min(count, stopBehind - blocks);
        blocks += written;
        if (blocks == stopBehind) {
            stopped = true;
            stopBehind = -1;
            draft = new ArrayList<>();
            stack.clear();
        }
        return written == count;
    }

    int commit() {
        if (stopped) {
            return -9;
        }
        if (pending.isEmpty()) {
            return -1;
        }
        Part added = new Part();
        pending.values().forEach(added.texts::addAll);
        if (!added.texts.isEmpty() && parts.size() == 6) {
            return -2;
        }
        boolean deletes = live(parts).stream().anyMatch(text -> pending.containsKey(text.id));
        if (write(added.texts.size() + (deletes ? 1 : 0) + 1)) {
            for (Part part : parts) {
                for (Text text : part.texts) {
                    if (pending.containsKey(text.id)) {
                        part.deleted.add(text);
                    }
                }
            }
            if (!added.texts.isEmpty()) {
                parts.add(added);
            }
            pending.clear();
        }
        if (stopped) {
            pending.clear();
            return -9;
        }
        return live(parts).size();
    }

    int merge(int i) {
        if (stopped) {
            return -9;
        }
        if (i < 0 || (long) i + 1 >= parts.size()) {
            return -1;
        }
        Part joined = new Part();
        joined.texts.addAll(live(parts.subList(i, i + 2)));
        if (write(joined.texts.size() + 1)) {
            parts.subList(i, i + 2).clear();
            if (!joined.texts.isEmpty()) {
                parts.add(i, joined);
            }
        }
        if (stopped) {
            pending.clear();
            return -9;
        }
        return parts.size();
    }

    boolean fuse(int k) {
        if (stopped || k < 1 || k > 100) {
            return false;
        }
        stopBehind = blocks + k;
        return true;
    }

    boolean restart() {
        boolean was = stopped;
        stopped = false;
        return was;
    }

    // Queries.

    int term(long word) {
        if (stopped) {
            return -9;
        }
        if (!isWord(word) || stack.size() == 8) {
            return -1;
        }
        stack.addLast(new Query("term", termOf(word), List.of()));
        return stack.size();
    }

    private int put(String kind, int n) {
        List<Query> all = new ArrayList<>(stack);
        Query made = new Query(kind, "", List.copyOf(all.subList(all.size() - n, all.size())));
        if (made.deep() > 6) {
            return -1;
        }
        for (int i = 0; i < n; i++) {
            stack.removeLast();
        }
        stack.addLast(made);
        return stack.size();
    }

    int phrase(int n) {
        if (stopped) {
            return -9;
        }
        if (n < 2 || n > stack.size() || stack.stream().skip(stack.size() - n).anyMatch(q -> !q.kind.equals("term"))) {
            return -1;
        }
        return put("phrase", n);
    }

    int join(int how) {
        if (stopped) {
            return -9;
        }
        if (how < 0 || how > 2 || stack.size() < (how == 2 ? 1 : 2)) {
            return -1;
        }
        return put(List.of("both", "either", "not").get(how), how == 2 ? 1 : 2);
    }

    int find() {
        if (stopped) {
            return -9;
        }
        results = new ArrayList<>();
        List<Query> all = new ArrayList<>(stack);
        stack.clear();
        if (all.size() != 1) {
            return -3;
        }
        for (Text text : live(parts)) {
            if (all.get(0).matches(text)) {
                results.add(new Result(text.id, 0));
            }
        }
        return results.size();
    }

    // Weight.

    private static int weightOf(String sought, Text text, List<Text> live) {
        long t = text.times(sought);
        if (t == 0) {
            return 0;
        }
        long n = live.size();
        long sum = live.stream().mapToInt(Text::length).sum();
        long f = live.stream().filter(each -> each.times(sought) > 0).count();
        long x = (n + 1) * 256 / f;
        int e = 0;
        while (1L << (e + 1) <= x) {
            e++;
        }
        long i = 16 * e + x * 16 / (1L << e) - 16;
        return (int) (i * t * 2200 / (1000 * t + 300 + 900 * text.length() * n / sum));
    }

    private static Result weigh(List<String> bag, Text text, List<Text> live) {
        return new Result(text.id, bag.stream().mapToInt(each -> weightOf(each, text, live)).sum());
    }

    private static List<Result> best(List<Result> all, int k) {
        return all.stream().sorted(Comparator.comparingInt(Result::weight).reversed().thenComparingInt(Result::id))
            .limit(k).toList();
    }

    int rank(int k) {
        if (stopped) {
            return -9;
        }
        if (k < 1 || k > 5) {
            return -1;
        }
        List<Query> all = new ArrayList<>(stack);
        stack.clear();
        results = List.of();
        weighed = 0;
        if (all.isEmpty() || all.stream().anyMatch(query -> !query.kind.equals("term"))) {
            return -3;
        }
        List<String> bag = all.stream().map(Query::sought).toList();
        List<Text> live = live(parts);
        List<Text> having = live.stream().filter(text -> bag.stream().anyMatch(each -> text.times(each) > 0)).toList();
        results = best(having.stream().map(text -> weigh(bag, text, live)).toList(), k);
        List<Result> before = new ArrayList<>();
        for (Text text : having) {
            int bounds = bag.stream().filter(each -> text.times(each) > 0)
                .mapToInt(each -> live.stream().mapToInt(any -> weightOf(each, any, live)).max().orElse(0)).sum();
            if (before.size() < k || bounds > best(before, k).get(k - 1).weight) {
                before.add(weigh(bag, text, live));
            }
        }
        weighed = before.size();
        return results.size();
    }

    int result(int i) {
        return i >= 0 && i < results.size() ? results.get(i).id : -1;
    }

    int weight(int i) {
        return i >= 0 && i < results.size() ? results.get(i).weight : -1;
    }

    int weighed() {
        return weighed;
    }

    int size(int what) {
        switch (what) {
            case 0: return live(parts).size();
            case 1: return parts.size();
            case 2: return parts.stream().mapToInt(part -> part.texts.size()).sum();
            case 3: return pending.size();
            case 4: return draft.size();
            case 5: return stack.size();
            case 6: return live(parts).stream().mapToInt(Text::length).sum();
            case 7: return blocks;
            case 8: return stopped ? 1 : 0;
            case 9: return entries();
            default: return -1;
        }
    }

    private int entries() {
        int entries = 0;
        for (Part part : parts) {
            for (Text text : part.texts) {
                Set<String> different = new HashSet<>(text.terms);
                different.remove("");
                entries += different.size();
            }
        }
        return entries;
    }
}
