/** What the document says under DOCUMENTS and in promises 1 and 3 to 5, sentence by sentence. */
public final class DraftSentencesTest {
    private static final Sentences sentences = new Sentences();
    private static final String STOPPED = "delete 0; fuse 1; commit = -9; ";
    private static final String TWELVE_WORDS = "b c d e f g h i j k l m";
    private static final String NO_WORDS = "0 27 31 32 1026 -1 1152921504606846978 -9223372036854775806";
    private static final String NO_IDS = "-1 12 13 32 MIN MAX";

    public static void main(String[] args) {
        documents();
        promise1();
        promise3();
        promise4();
        promise5();
        sentences.end();
    }

    private static void documents() {
        sentences.under("DOCUMENTS");
        sentences.test("DOCUMENTS have ids 0 .. 11;",
            "put 0 red = 1; put 11 red = 2; commit = 2; holds red = 0 11",
            "add 0 1 2 3 4 5 6 7 8 9 10 11 = 1 2 3 4 5 6 7 8 9 10 11 12; add " + NO_IDS + " = -1; commit = 12",
            "delete 0 1 2 3 4 5 6 7 8 9 10 11 = 1 2 3 4 5 6 7 8 9 10 11 12; delete " + NO_IDS + " = -1; commit = 0");
        sentences.test("a document is a row of at most 12 words as they were fed, at PLACES 0, 1, ..;",
            "feed " + TWELVE_WORDS + " = 1 2 3 4 5 6 7 8 9 10 11 12; feed n = -1; add 4 = 1; commit = 1; size 6 = 12; "
                + "holds m = 4; holds n =; holds b c = 4; holds l m = 4; holds m b =; holds f g h i j k l m = 4",
            "put 4 red dog; commit; holds red dog = 4; holds dog red =");
        sentences.test("its TERMS are the stems of those that are no stop words;",
            "put 4 cats the hopping; commit; holds cat = 4; holds hop = 4; holds the =; size 9 = 2",
            "put 4 the a to; commit; size 6 9 = 0");
        sentences.test("its LENGTH is how many these are (the same term at two places counts twice).",
            "put 4 red red; commit; size 6 = 2; size 9 = 1",
            "put 4 hop the hopping hops; commit; size 6 = 3; size 9 = 1",
            "put 4 the; commit; size 6 = 0",
            "add 4; commit; size 6 = 0",
            "put 4 " + "red ".repeat(12) + "; commit; size 6 = 12; size 9 = 1");
    }

    private static void promise1() {
        sentences.under("Promise 1");
        sentences.test("No documents,",
            "size 0 2 6 9 = 0; term red; join 2; find = 0; term red; rank 5 = 0");
        sentences.test("no segments,",
            "size 1 = 0; merge 0 -1 1 = -1");
        sentences.test("an empty draft",
            "size 4 = 0; feed red = 1",
            "add 3 = 1; commit = 1; size 6 9 = 0");
        sentences.test("and stack,",
            "size 5 = 0; find = -3",
            "rank 1 = -3",
            "phrase 2 = -1; join 2 = -1",
            "term red = 1");
        sentences.test("no fuse,",
            "restart = false; " + "delete 0; commit = 0; ".repeat(120) + "size 7 = 120; size 8 = 0");
        sentences.test("nothing written.",
            "size 7 = 0; size 3 = 0; commit = -1; size 7 = 0");
        sentences.test("No documents, no segments, an empty draft and stack, no fuse, nothing written.",
            "sizes = 0 0 0 0 0 0 0 0 0 0; result 0 = -1; weight 0 = -1; weighed = 0");
        sentences.test("An object is used for at most 512 calls after it has been made;",
            "put 0 red; commit = 1; " + "size 0 = 1; ".repeat(507) + "term red = 1; find = 1",
            "delete 0; commit = 0; ".repeat(255) + "size 7 = 255; size 3 = 0");
    }

    private static void promise3() {
        sentences.under("Promise 3");
        sentences.test("Adds a word to the draft.",
            "feed red; feed dog; add 0; commit; holds red dog = 0",
            // a stop word is a word of the draft too
            "feed the a to = 1 2 3; size 4 = 3");
        sentences.test("Answers how many words it has;",
            "feed " + TWELVE_WORDS + " = 1 2 3 4 5 6 7 8 9 10 11 12; size 4 = 12; add 0; feed b = 1; size 4 = 1",
            "feed red red red = 1 2 3");
        sentences.test("DOWN;",
            STOPPED + "feed red = -9; feed " + NO_WORDS + " = -9; size 4 = 0; restart; feed red = 1");
        sentences.test("refused with -1 when word is none,",
            "feed " + NO_WORDS + " = -1; size 4 = 0; feed red = 1; feed " + NO_WORDS + " = -1; feed dog = 2");
        sentences.changesNothing("refused with -1 when word is none,",
            "feed red",
            "feed " + NO_WORDS + " = -1",
            "feed dog = 2; add 0; commit; holds red dog = 0; size 6 = 2");
        sentences.test("or the draft has 12.",
            "feed " + TWELVE_WORDS + "; feed red the 0 = -1; size 4 = 12",
            "feed " + "the ".repeat(12) + "; feed red = -1; add 0; commit; holds red =; size 6 = 0",
            "feed " + "red ".repeat(11) + "; feed red = 12; feed red = -1");
        sentences.changesNothing("or the draft has 12.",
            "feed " + TWELVE_WORDS,
            "feed red b = -1",
            "add 0; commit; size 6 = 12; holds red =; holds b = 0; holds m = 0");
    }

    private static void promise4() {
        sentences.under("Promise 4");
        sentences.test("The draft becomes the pending document of an id",
            "put 3 red; sizes = 0 0 0 1 0 0 0 0 0 0; holds red =; commit = 1; holds red = 3",
            // What is fed later is not in it.
            "put 3 red; feed dog; commit; holds dog =; size 6 = 1");
        sentences.test("(in place of what was pending for it;",
            "put 3 red = 1; put 3 dog = 1; commit = 1; size 7 = 2; holds red =; holds dog = 3",
            "delete 3 = 1; put 3 dog = 1; commit = 1; size 1 = 1; size 7 = 2; holds dog = 3",
            "put 3 red dog; add 3 = 1; commit = 1; size 6 = 0",
            // of another id nothing changes
            "put 3 red = 1; put 4 dog = 2; delete 5 = 3; put 4 red = 3; commit = 2; holds red = 3 4");
        sentences.test("a draft without words is a document too),",
            "add 3 = 1; commit = 1; sizes = 1 1 1 0 0 0 0 2 0 0; term red; join 2; find = 1; results = 3",
            "put 3 red; commit; add 3; commit = 1; sizes = 1 2 2 0 0 0 0 5 0 1; holds red =");
        sentences.test("and is empty then.",
            "put 3 red; size 4 = 0; add 4 = 2; commit; holds red = 3; size 6 = 1",
            "put 3 red; feed dog = 1");
        sentences.test("Answers how many ids have something pending;",
            "add 3 3 4 = 1 1 2; delete 5 3 = 3 3; add 5 = 3; size 3 = 3; commit; size 3 = 0; add 0 = 1");
        sentences.test("DOWN;",
            STOPPED + "add 0 3 11 = -9; add " + NO_IDS + " = -9; size 3 = 0; restart; add 0 = 1");
        sentences.test("refused with -1 when there is no such id.",
            "add " + NO_IDS + " = -1; size 3 = 0; commit = -1",
            "feed red; add " + NO_IDS + " = -1; size 4 = 1; add 11 = 1");
        sentences.changesNothing("refused with -1 when there is no such id.",
            "put 0 cat; delete 11; feed red dog",
            "add " + NO_IDS + " = -1",
            "add 3 = 3; commit = 2; holds red dog = 3; holds cat = 0",
            "feed cat = 3; commit = 1; size 7 = 2");
    }

    private static void promise5() {
        sentences.under("Promise 5");
        sentences.test("For an id it becomes pending that it is deleted",
            "put 3 red; commit = 1; delete 3 = 1; size 0 = 1; holds red = 3; commit = 0; holds red =; size 2 = 1",
            "put 0 red; put 11 red; commit = 2; delete 0; delete 11 = 2; commit = 0");
        sentences.test("(in place of what was pending for it,",
            "put 3 red = 1; delete 3 = 1; commit = 0; sizes = 0 0 0 0 0 0 0 1 0 0",
            "delete 3 3 = 1; size 3 = 1",
            "put 3 red; put 4 dog; delete 3 = 2; commit = 1; holds red =; holds dog = 4; size 7 = 2");
        sentences.test("whether there is such a document or not).",
            "delete 3 = 1; size 3 = 1; commit = 0; size 7 = 1",
            "put 4 red; commit; delete 3 = 1; commit = 1; size 7 = 3",
            "put 3 red; commit; delete 3; commit; delete 3 = 1; commit = 0; size 7 = 5");
        sentences.test("Answers how many ids have something pending;",
            "delete 3 4 3 = 1 2 2; add 4 5 = 2 3; delete 0 11 = 4 5; size 3 = 5");
        sentences.test("For an id it becomes pending that it is deleted",
            "feed red; delete 3 = 1; size 4 = 1; commit = 0; size 4 = 1; feed dog = 2");
        sentences.test("DOWN;",
            STOPPED + "delete 0 3 11 = -9; delete " + NO_IDS + " = -9; size 3 = 0; restart; delete 0 = 1");
        sentences.test("refused with -1 when there is no such id.",
            "delete " + NO_IDS + " = -1; size 3 = 0; commit = -1");
        sentences.changesNothing("refused with -1 when there is no such id.",
            "put 0 cat; put 11 cat; commit; put 3 red; delete 4; feed dog",
            "delete " + NO_IDS + " = -1",
            "commit = 3; holds cat = 0 11; holds red = 3; add 5; commit; holds dog = 5");
    }
}
