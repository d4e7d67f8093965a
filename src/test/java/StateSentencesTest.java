/** What the document says in promise 18, of DOWN, and of calls that change nothing, sentence by sentence. */
public final class StateSentencesTest {
    private static final Sentences sentences = new Sentences();
    private static final String STOPPED = "delete 7; fuse 1; commit = -9; ";
    /** Two segments, one of their documents deleted, 7 blocks, and something everywhere else. */
    private static final String BUSY = "put 0 red red the; put 1 dog; commit; put 2 cat the; put 0 bird fish; "
        + "commit = 3; "
        + "term red; join 2; term dog; rank 1; term dog; rank 3; put 5 red; delete 1; feed red the; term red dog cat; ";

    public static void main(String[] args) {
        promise18();
        promise18OfOthers();
        down();
        changesNothing();
        stopsChange();
        sentences.end();
    }

    private static void promise18() {
        sentences.under("Promise 18");
        sentences.test("0 the live documents;",
            "size 0 = 0; put 0 red; size 0 = 0; commit; size 0 = 1; put 0 dog; commit; size 0 = 1; delete 0; "
                + "size 0 = 1; commit; size 0 = 0",
            "add 0 1 2 3 4 5 6 7 8 9 10 11; commit; size 0 = 12");
        sentences.test("1 the segments;",
            "size 1 = 0; put 0 red; size 1 = 0; commit; size 1 = 1; put 0 red; commit; size 1 = 2; delete 0; commit; "
                + "size 1 = 2; merge 0; size 1 = 0",
            "put 0 red; commit; ".repeat(7) + "size 1 = 6");
        sentences.test("2 the documents in segments, deleted ones included;",
            "size 2 = 0; put 0 red; size 2 = 0; commit; put 0 red; commit; size 2 = 2; delete 0; commit; size 2 = 2; "
                + "put 1 red; commit; size 2 = 3; merge 1; size 2 = 2; merge 0; size 2 = 1");
        sentences.test("3 the ids with something pending;",
            "size 3 = 0; put 0 red; size 3 = 1; delete 0; size 3 = 1; delete 11; size 3 = 2; commit; size 3 = 0");
        sentences.test("4 the words of the draft;",
            "size 4 = 0; feed red the red; size 4 = 3; add 0; size 4 = 0; feed " + "the ".repeat(12) + "; size 4 = 12");
        sentences.test("5 what is on the stack;",
            "size 5 = 0; term red the dog; size 5 = 3; phrase 2; size 5 = 2; join 0; size 5 = 1; find; size 5 = 0",
            "term a b c d e f g h; size 5 = 8; rank 1; size 5 = 0");
        sentences.test("6 the sum of the lengths of the live documents;",
            "size 6 = 0; put 0 red red the; put 1 dog; size 6 = 0; commit; size 6 = 3; put 0 cat; commit; size 6 = 2; "
                + "delete 1; commit; size 6 = 1; delete 0; commit; size 6 = 0");
    }

    private static void promise18OfOthers() {
        sentences.test("7 the blocks written since the beginning;",
            "size 7 = 0; put 0 red; size 7 = 0; commit; size 7 = 2; put 1 red; commit; size 7 = 4; merge 0; size 7 = 7",
            // also those of a commit or merge that never happened, and from before a restart
            "put 0 red; put 1 red; fuse 2; commit; size 7 = 2; restart; size 7 = 2; delete 0; commit; size 7 = 3",
            "put 0 red; commit; put 1 red; commit; fuse 1; merge 0; size 7 = 5; restart; merge 0; size 7 = 8");
        sentences.test("8 whether the machine has stopped (1 or 0);",
            "size 8 = 0; fuse 1; size 8 = 0; delete 0; commit = -9; size 8 = 1; restart; size 8 = 0");
        sentences.test("9 the entries: for each segment and each document in it, deleted ones included, how many "
            + "different terms it has.",
            "size 9 = 0; put 0 red red hop hopping the; size 9 = 0; commit; size 9 = 2; put 0 red; commit; size 9 = 3; "
                + "delete 0; commit; size 9 = 3; put 1 the; commit; size 9 = 3; merge 0; size 9 = 0; put 2 red; "
                + "put 3 red; commit; size 9 = 2",
            "put 0 b c d e f g h i j k l m; commit; size 9 = 12; add 1; commit; size 9 = 12");
        sentences.test("-1 for any other number.",
            "size -1 10 11 -2 100 MIN MAX = -1",
            BUSY + "size -1 10 MIN MAX = -1",
            STOPPED + "size -1 10 MIN MAX = -1");
        sentences.test("0 the live documents; 1 the segments; 2 the documents in segments, deleted ones included;",
            // all at once, each a number of its own
            "put 0 b c d e; put 1 b c d e; commit; put 1 f f f f f f; put 2 b; put 3 b b b; commit = 4; add 4 5 6 7 8; "
                + "feed a b c d e f g; term a b c d e f; sizes = 4 2 5 5 7 6 14 8 0 11");
    }

    private static void down() {
        sentences.under("DOWN");
        sentences.test("(Every call that may answer DOWN does so then,",
            STOPPED + "feed red = -9; add 0 = -9; delete 0 = -9; commit = -9; merge 0 = -9; term red = -9; "
                + "phrase 2 = -9; join 0 1 2 = -9; find = -9; rank 1 = -9");
        sentences.test("before anything else is looked at.)",
            STOPPED + "feed 0 27 -1 = -9; add -1 12 = -9; delete -1 12 = -9; merge -1 0 9 = -9; term 0 27 -1 = -9; "
                + "phrase 0 1 9 = -9; join -1 3 = -9; rank 0 6 -1 = -9");
        sentences.test("`DOWN = -9`: The machine has stopped.",
            // Those that cannot answer so go on.
            BUSY + "fuse 1; commit = -9; stem cats = cat; result 0 = 1; weight 1 = -1; weighed = 1; size 8 = 1; "
                + "fuse 1 = false; restart = true");
        sentences.test("`MALFORMED = -3`: A query is not well put together.",
            "find = -3; rank 1 = -3; term red dog; find = -3; term red; join 2; rank 1 = -3");
    }

    private static void changesNothing() {
        sentences.under("A call that answers false, DOWN, or is said to be refused changes nothing;");
        String[] laters = {
            "commit = 3; holds red =; size 9 = 6", "add 6 = 3; commit = 4", "feed dog = 3; add 6; commit; merge 0",
            "rank 5 = 2", "phrase 3 = 1; find = 0", "join 0; join 1; find = 0", "find = -3", "merge 0 = 1; commit = 3",
            "result 0; weight 0; weighed", "fuse 1; merge 0 = -9", "delete 5 = 2; commit = 2",
        };
        for (String refused : new String[] {
            "feed 0 27 -1 = -1", "add -1 12 = -1", "delete -1 12 = -1", "merge -1 1 = -1", "fuse 0 101 = false",
            "restart = false", "term 0 27 -1 = -1", "phrase 1 4 = -1", "join -1 3 = -1", "rank 0 6 = -1",
            "result -1 9 = -1; weight -1 9 = -1; size -1 10 = -1",
        }) {
            sentences.changesNothing("is said to be refused", BUSY, refused, laters);
            sentences.changesNothing("is said to be refused", BUSY + "fuse 3", refused,
                "commit = -9; size 0 = 3; size 7 = 10");
        }
        sentences.changesNothing("DOWN,",
            BUSY + "fuse 2; commit = -9",
            "feed red = -9; add 0 = -9; delete 0 = -9; commit = -9; merge 0 = -9; term red = -9; phrase 2 = -9; "
                + "join 2 = -9; find = -9; rank 1 = -9; fuse 1 = false",
            "restart = true; commit = -1; find = -3; merge 0 = 1; put 0 red; commit = 3; put 4 red; commit = 4; "
                + "holds red = 0 4",
            "result 0; weight 0; weighed; size 7");
    }

    private static void stopsChange() {
        sentences.under("but for a commit() or merge() with which the machine stops.");
        sentences.test("a commit()",
            BUSY + "fuse 1; commit = -9; sizes = 3 2 4 0 0 0 4 8 1 5",
            BUSY + "fuse 3; commit = -9; sizes = 3 3 5 0 0 0 4 10 1 6");
        sentences.test("or merge()",
            BUSY + "fuse 1; merge 0 = -9; sizes = 3 2 4 0 0 0 4 8 1 5",
            BUSY + "fuse 4; merge 0 = -9; sizes = 3 1 3 0 0 0 4 11 1 4");
    }
}
