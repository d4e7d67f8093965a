import java.util.Random;

/** Long runs of calls, drawn from fixed seeds: every answer and the whole visible state is as in the model. */
public final class ModelTest {
    private static final int RUNS = 400;
    private static final int CALLS = 512;
    private static final int STEMS = 60000;
    private static final String[] WORDS = {
        "cat", "cats", "dog", "dogs", "red", "hop", "hopping", "hopped", "the", "a", "to", "toed", "fish", "bird",
    };
    private static final long[] NONE = {0L, 27L, 32L, -1L, 1L << 60, Long.MAX_VALUE};
    private static final String[] ENDS = {
        "", "s", "ss", "sses", "ies", "eed", "ed", "ing", "y", "ying", "ated", "ings",
    };

    private final Check check;
    private final Random random;
    private final int run;
    private final PostingShelf shelf = new PostingShelf();
    private final Model model = new Model();
    /** Few words and short documents make phrases and bags match; and some runs never stop. */
    private final int wordKinds;
    private final boolean mayStop;

    private ModelTest(Check check, int run) {
        this.check = check;
        this.run = run;
        this.random = new Random(run);
        this.wordKinds = run % 3 == 0 ? 4 : WORDS.length;
        this.mayStop = run % 4 != 0;
    }

    public static void main(String[] args) {
        Check check = new Check();
        stems(check);
        for (int run = 0; run < RUNS; run++) {
            new ModelTest(check, run).play();
        }
        afterTheLastCall(check);
        check.end();
    }

    private static void stems(Check check) {
        Random random = new Random(1);
        PostingShelf shelf = new PostingShelf();
        Model model = new Model();
        for (int i = 0; i < STEMS; i++) {
            StringBuilder letters = new StringBuilder();
            String alphabet = i % 2 == 0 ? "abceilsyz" : "aeiouybcdfghjklmnpqrstvwxz";
            int length = random.nextInt(8);
            for (int j = 0; j < length; j++) {
                letters.append(alphabet.charAt(random.nextInt(alphabet.length())));
            }
            letters.append(ENDS[random.nextInt(ENDS.length)]);
            long word = Check.word(letters.toString());
            check.due("stem of " + letters, shelf.stem(word), model.stem(word));
            long other = random.nextLong() >>> random.nextInt(64);
            check.due("stem(" + other + ")", shelf.stem(other), model.stem(other));
        }
    }

    private void play() {
        for (int call = 0; call < CALLS; call++) {
            String made = step();
            String at = "run " + run + ", behind call " + call + " " + made + ": ";
            for (int what = -1; what <= 10; what++) {
                check.due(at + "size(" + what + ")", shelf.size(what), model.size(what));
            }
            for (int i = -1; i <= 12; i++) {
                check.due(at + "result(" + i + ")", shelf.result(i), model.result(i));
                check.due(at + "weight(" + i + ")", shelf.weight(i), model.weight(i));
            }
            check.due(at + "weighed()", shelf.weighed(), model.weighed());
        }
    }

    private long word() {
        int drawn = random.nextInt(40);
        return drawn == 0 ? NONE[random.nextInt(NONE.length)] : Check.word(WORDS[random.nextInt(wordKinds)]);
    }

    private String due(String call, long got, long want) {
        check.due("run " + run + ": " + call, got, want);
        return call;
    }

    private String step() {
        int drawn = random.nextInt(100);
        if (drawn < 34) {
            long word = word();
            return due("feed(" + word + ")", shelf.feed(word), model.feed(word));
        }
        if (drawn < 44) {
            int id = random.nextInt(14) - 1;
            return due("add(" + id + ")", shelf.add(id), model.add(id));
        }
        if (drawn < 47) {
            int id = random.nextInt(14) - 1;
            return due("delete(" + id + ")", shelf.delete(id), model.delete(id));
        }
        return drawn < 60 ? writingStep(drawn) : queryStep(drawn);
    }

    private String writingStep(int drawn) {
        if (drawn < 52) {
            return due("commit()", shelf.commit(), model.commit());
        }
        if (drawn < 55) {
            int i = random.nextInt(7) - 1;
            return due("merge(" + i + ")", shelf.merge(i), model.merge(i));
        }
        if (drawn < 57 && mayStop) {
            int k = random.nextInt(10) == 0 ? random.nextInt(104) - 1 : random.nextInt(12);
            return due("fuse(" + k + ")", shelf.fuse(k) ? 1 : 0, model.fuse(k) ? 1 : 0);
        }
        return due("restart()", shelf.restart() ? 1 : 0, model.restart() ? 1 : 0);
    }

    private String queryStep(int drawn) {
        if (drawn < 76) {
            long word = word();
            return due("term(" + word + ")", shelf.term(word), model.term(word));
        }
        if (drawn < 80) {
            int n = random.nextInt(5);
            return due("phrase(" + n + ")", shelf.phrase(n), model.phrase(n));
        }
        if (drawn < 90) {
            int how = random.nextInt(20) == 0 ? 3 : random.nextInt(3);
            return due("join(" + how + ")", shelf.join(how), model.join(how));
        }
        if (drawn < 95 && model.size(5) == 1 || drawn == 90) {
            return due("find()", shelf.find(), model.find());
        }
        int k = random.nextInt(7);
        return due("rank(" + k + ")", shelf.rank(k), model.rank(k));
    }

    /** What is answered behind the 512th call is free, but nothing is thrown, whatever the arguments are. */
    private static void afterTheLastCall(Check check) {
        Random random = new Random(2);
        PostingShelf shelf = new PostingShelf();
        for (int i = 0; i < 200000; i++) {
            int any = random.nextInt(3) == 0 ? random.nextInt() : random.nextInt(16) - 2;
            long word = Check.word(WORDS[random.nextInt(WORDS.length)]);
            try {
                callAny(shelf, random.nextInt(17), any, word);
            } catch (RuntimeException thrown) {
                check.due("a call that threw " + thrown, 1, 0);
            }
        }
    }

    private static void callAny(PostingShelf shelf, int which, int any, long word) {
        switch (which) {
            case 0: shelf.stem(word + any); break;
            case 1: shelf.feed(word); break;
            case 2: shelf.add(any); break;
            case 3: shelf.delete(any); break;
            case 4: shelf.commit(); break;
            case 5: shelf.merge(any); break;
            case 6: shelf.fuse(any); break;
            case 7: shelf.restart(); break;
            case 8: case 9: shelf.term(word); break;
            case 10: shelf.phrase(any); break;
            case 11: shelf.join(any); break;
            case 12: shelf.find(); break;
            case 13: shelf.rank(any); break;
            case 14: shelf.result(any); break;
            case 15: shelf.weight(any); break;
            default: shelf.size(any);
        }
    }
}
