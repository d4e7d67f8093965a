/** What the document says under SEGMENTS and WRITING and in promises 6 to 9, sentence by sentence. */
public final class WritingSentencesTest {
    private static final Sentences sentences = new Sentences();
    private static final String STOPPED = "delete 0; fuse 1; commit = -9; ";
    /** Segments with one document each, red, of the ids 0 up to 5. */
    private static final String SIX = "put 0 red; commit; put 1 red; commit; put 2 red; commit; put 3 red; commit; "
        + "put 4 red; commit; put 5 red; commit = 6; ";
    private static final String FIVE = SIX.substring(0, SIX.indexOf("put 5"));
    private static final String TWO = SIX.substring(0, SIX.indexOf("put 2"));
    private static final String ONE = SIX.substring(0, SIX.indexOf("put 1"));
    /** Two segments with ids 0 and 1, and 2 and 3, of which 1 and 2 are deleted; 8 blocks. */
    private static final String HALVES = "put 0 red; put 1 red; commit; put 2 dog; put 3 dog; commit = 4; "
        + "delete 1; delete 2; commit = 2; size 7 = 8; ";
    /** Something in the draft, on the stack and, of another id, pending. */
    private static final String BUSY = "put 9 bird; feed cat fish; term red dog; ";

    public static void main(String[] args) {
        segments();
        fuseAndStop();
        manifest();
        afterTheStop();
        blocksOfCommit();
        manifestOfCommit();
        refusalsOfCommit();
        promise7();
        refusalsOfMerge();
        promise8();
        promise9();
        sentences.end();
    }

    private static void segments() {
        sentences.under("SEGMENTS");
        sentences.test("SEGMENTS are in a row, at most six;",
            SIX + "size 1 = 6; put 6 red; commit = -2; size 1 = 6; merge 0 = 5; commit = 7; size 1 = 6");
        sentences.test("each has documents, some of them marked as deleted.",
            HALVES + "sizes = 2 2 4 0 0 0 2 8 0 4");
        sentences.test("no two live ones have the same id.",
            "put 0 red; commit = 1; put 0 dog; commit = 1; put 0 red dog; commit = 1; sizes = 1 3 3 0 0 0 2 8 0 4; "
                + "holds red = 0; merge 1 = 2; merge 0 = 1; holds red = 0; sizes = 1 1 1 0 0 0 2 12 0 2");
        sentences.test("Searches see the live documents alone.",
            HALVES + "holds red = 0; holds dog = 3; term fish; join 2; find = 2; results = 0 3; term red dog; "
                + "rank 5 = 2; results = 0:152 3:152; weighed = 2",
            // Neither what is in the draft nor what is pending.
            "put 0 red; feed red; holds red =; term red; rank 1 = 0; add 1; commit; holds red = 0 1");
        sentences.test("A segment without live documents stays till it is joined.",
            "put 0 red; commit; delete 0; commit = 0; sizes = 0 1 1 0 0 0 0 4 0 1; put 0 dog; commit = 1; size 1 = 2; "
                + "delete 0; commit = 0; size 1 = 2; size 2 = 2; merge 0 = 0; size 2 = 0",
            SIX + "delete 0 1 2 3 4 5; commit = 0; size 1 = 6; put 0 red; commit = -2; merge 4 = 4; commit = 1; "
                + "size 1 = 5");
    }

    private static void fuseAndStop() {
        sentences.under("WRITING");
        sentences.test("Blocks are written one after the other;",
            "put 0 red; put 1 red; fuse 1; commit = -9; size 7 = 1",
            "put 0 red; put 1 red; fuse 2; commit = -9; size 7 = 2",
            "put 0 red; put 1 red; fuse 3; commit = -9; size 7 = 3",
            "put 0 red; put 1 red; fuse 4; commit = 2; size 7 = 3");
        sentences.test("the machine STOPS right behind the k-th block written since then",
            ONE + "fuse 2; size 7 8 = 2 0; put 1 red; commit = -9; size 7 8 = 4 1",
            ONE + "fuse 3; put 1 red; commit = 2; size 7 8 = 4 0; delete 5; commit = -9; size 7 8 = 5 1",
            TWO + "fuse 4; merge 0 = 1; size 7 8 = 7 0; delete 5; commit = -9; size 7 8 = 8 1");
        sentences.test("(also by several calls),",
            "fuse 3; delete 0; commit = 0; delete 0; commit = 0; delete 0; commit = -9; size 7 = 3",
            "fuse 6; put 0 red; commit = 1; put 1 red; commit = 2; merge 0 = -9; size 7 = 6; size 1 = 2",
            "fuse 7; put 0 red; commit = 1; put 1 red; commit = 2; merge 0 = -9; size 7 = 7; size 1 = 1",
            // Calls that write nothing burn nothing of it.
            "fuse 1; commit = -1; merge 0 = -1; feed red = 1; add 0 = 1; term red = 1; find = 0; rank 1 = -3; "
                + "delete 1 = 2; size 8 = 0; fuse 0 = false; restart = false; commit = -9");
        sentences.test("and the fuse is gone.",
            "delete 0; fuse 1; commit = -9; restart = true; " + "delete 0; commit = 0; ".repeat(101) + "size 7 = 102",
            "put 0 red; put 1 red; fuse 2; commit = -9; restart = true; put 0 red; put 1 red; commit = 2; size 7 = 5",
            TWO + "fuse 2; merge 0 = -9; restart = true; merge 0 = 1; put 5 red; commit = 3");
    }

    private static void manifest() {
        String replaced = "put 0 red; commit; put 0 dog; put 1 dog; ";
        String old = "restart; sizes = 1 1 1 0 0 0 1 %d 0 1; holds red = 0; holds dog =; commit = -1";
        sentences.test("What was to happen by the MANIFEST, the last block of a commit or merge, happens if that block "
            + "is written,",
            replaced + "fuse 4; commit = -9; restart; sizes = 2 2 3 0 0 0 2 6 0 3; holds red =; holds dog = 0 1; "
                + "commit = -1",
            "put 0 red; commit; delete 0; fuse 2; commit = -9; restart; sizes = 0 1 1 0 0 0 0 4 0 1; holds red =",
            HALVES + "fuse 3; merge 0 = -9; restart; sizes = 2 1 2 0 0 0 2 11 0 2; holds red = 0; holds dog = 3; "
                + "merge 0 = -1",
            TWO + "delete 0 1; commit; fuse 1; merge 0 = -9; restart; sizes = 0 0 0 0 0 0 0 7 0 0");
        sentences.test("and otherwise not at all.",
            replaced + "fuse 1; commit = -9; " + String.format(old, 3),
            replaced + "fuse 2; commit = -9; " + String.format(old, 4),
            replaced + "fuse 3; commit = -9; " + String.format(old, 5),
            "put 0 red; commit; delete 0; fuse 1; commit = -9; restart; sizes = 1 1 1 0 0 0 1 3 0 1; holds red = 0",
            HALVES + "fuse 1; merge 0 = -9; restart; sizes = 2 2 4 0 0 0 2 9 0 4; holds red = 0; holds dog = 3; "
                + "merge 0 = 1",
            HALVES + "fuse 2; merge 0 = -9; restart; sizes = 2 2 4 0 0 0 2 10 0 4; holds red = 0; holds dog = 3; "
                + "merge 0 = 1");
    }

    private static void afterTheStop() {
        for (int k = 1; k <= 2; k++) {
            sentences.test("When the machine stopped, draft, pending and stack are empty,",
                BUSY + "sizes = 0 0 0 1 2 2 0 0 0 0; fuse " + k + "; commit = -9; size 3 4 5 = 0; restart; "
                    + "size 3 4 5 = 0; commit = -1; find = -3; add 0 = 1; feed dog = 1; commit; size 6 = " + (k - 1));
        }
        for (int k = 1; k <= 3; k++) {
            sentences.test("When the machine stopped, draft, pending and stack are empty,",
                TWO + BUSY + "size 3 4 5 = 1 2 2; fuse " + k + "; merge 0 = -9; size 3 4 5 = 0; restart; "
                    + "size 3 4 5 = 0; commit = -1; find = -3; put 0 = 1; commit = 2; holds cat =; holds bird =");
        }
        sentences.test("and the segments are as the last manifest that was written left them.",
            // Not as at the beginning, and not as they were to be.
            HALVES + "put 0 bird; delete 3; put 1 bird; fuse 3; commit = -9; sizes = 2 2 4 0 0 0 2 11 1 4; restart; "
                + "holds red = 0; holds dog = 3; holds bird =; merge 0 = 1; sizes = 2 1 2 0 0 0 2 14 0 2; put 7 bird; "
                + "fuse 1; commit = -9; sizes = 2 1 2 0 0 0 2 15 1 2; restart; holds red = 0; holds dog = 3");
    }

    private static void blocksOfCommit() {
        sentences.under("Promise 6");
        sentences.test("Writes a block for each pending document,",
            "delete 0; commit = 0; size 7 = 1",
            "put 0 red; commit = 1; size 7 = 2",
            "add 0; add 1; commit = 2; size 7 = 3",
            "add 0 1 2 3 4 5 6 7 8 9 10 11; commit = 12; size 7 = 13",
            // what is pending as deleted has no block, and no document in whose place another came
            "put 0 red; put 0 dog; delete 1; put 2 red; delete 2; commit = 1; size 7 = 2");
        sentences.test("one more if a live document has an id for which something is pending,",
            "put 0 red; commit; size 7 = 2; put 0 dog; commit; size 7 = 5",
            "put 0 red; commit; delete 0; commit; size 7 = 4",
            // one for several
            "add 0 1 2; commit; size 7 = 4; delete 0; add 1; delete 2; commit = 1; size 7 = 7",
            "add 0 1 2 3 4 5 6 7 8 9 10 11; commit; delete 0 1 2 3 4 5 6 7 8 9 10 11; commit = 0; size 7 = 15",
            // none for another id, for a deleted one, or for one that was never there
            "put 0 red; commit; put 1 dog; delete 2; commit; size 7 = 4",
            "put 0 red; commit; delete 0; commit; size 7 = 4; delete 0; commit; size 7 = 5; put 0 red; commit; "
                + "size 7 = 7");
        sentences.test("and the manifest:",
            "delete 4; commit = 0; size 7 = 1; delete 4; fuse 1; commit = -9; size 7 = 2");
    }

    private static void manifestOfCommit() {
        sentences.test("by that, the live documents of all pending ids are marked as deleted,",
            "add 0 1 2; commit = 3; delete 0; add 2; commit = 2; sizes = 2 2 4 0 0 0 0 7 0 0",
            TWO + "put 2 dog; commit; delete 0 2; commit = 1; sizes = 1 3 3 0 0 0 1 8 0 3; holds red = 1; holds dog =");
        sentences.test("the pending documents, if there are any, are a new segment behind the others,",
            "put 0 red; put 1 red; commit; sizes = 2 1 2 0 0 0 2 3 0 2",
            "delete 0; commit = 0; size 1 = 0",
            ONE + "delete 0; commit = 0; size 1 = 1",
            ONE + "delete 7; commit = 1; size 1 = 1",
            // Behind the others: joining the first two does not touch the last one's deleted document.
            "put 0 red; commit; put 1 red; commit; put 2 red; put 3 red; commit; delete 3; commit = 3; merge 0 = 2; "
                + "size 2 = 4; merge 0 = 1; size 2 = 3");
        sentences.test("and nothing is pending any more.",
            "put 0 red; delete 1; commit = 1; size 3 = 0; commit = -1; put 2 dog = 1; commit = 2");
        sentences.test("Answers how many live documents there are then;",
            "put 0 red; commit = 1; put 0 dog; put 1 dog; commit = 2; delete 0; put 5 red; commit = 2; delete 1 5; "
                + "commit = 0; size 0 = 0");
        sentences.test("nothing is pending any more.",
            // Of draft and stack nothing is said: they stay.
            "feed red; term dog; delete 0; commit = 0; size 4 5 = 1; add 0; commit = 1; find = 0; holds red = 0");
    }

    private static void refusalsOfCommit() {
        sentences.test("DOWN;",
            STOPPED + "commit = -9; size 7 = 1; restart; commit = -1",
            SIX + "put 6 red; fuse 1; merge 0 = -9; commit = -9; restart; commit = -1");
        sentences.test("refused with -1 when nothing is pending,",
            "commit = -1; size 7 = 0",
            "feed red; term red; commit = -1",
            SIX + "commit = -1; size 7 = 12",
            "put 0 red; commit = 1; commit = -1; size 7 = 2");
        sentences.changesNothing("refused with -1 when nothing is pending,",
            TWO + "feed cat; term red; fuse 2",
            "commit = -1",
            "find = 2; add 0; commit = -9; size 7 = 6",
            "merge 0 = -9");
        sentences.test("with -2 when a pending document is there and six segments are.",
            SIX + "put 6 red; commit = -2; sizes = 6 6 6 1 0 0 6 12 0 6",
            SIX + "put 0 dog; delete 1; commit = -2; size 3 = 2",
            // a document without words, too
            SIX + "add 6; commit = -2",
            // not with deletions alone, nor with five
            SIX + "delete 0; delete 7; commit = 5; sizes = 5 6 6 0 0 0 5 14 0 6",
            FIVE + "put 5 red; commit = 6; size 1 = 6",
            SIX + "put 6 red; delete 6; commit = 6; size 1 = 6",
            SIX + "add 6; merge 4 = 5; commit = 7; size 1 = 6");
        sentences.changesNothing("with -2 when a pending document is there and six segments are.",
            SIX + "put 0 dog; delete 1; feed cat; term red; fuse 5",
            "commit = -2; commit = -2",
            "merge 2 = 5; commit = -9; size 7 = 17",
            "find = 6; add 2 = 3; delete 0 2; commit = 3",
            "feed red = 2; size 5 = 1");
        sentences.test("If the machine stops with it, the answer is DOWN.",
            "delete 0; fuse 1; commit = -9; size 8 = 1",
            "put 0 red; fuse 1; commit = -9; size 8 = 1",
            "put 0 red; fuse 2; commit = -9; size 8 = 1; size 0 = 1",
            "put 0 red; fuse 3; commit = 1; size 8 = 0");
    }

    private static void promise7() {
        sentences.under("Promise 7");
        String three = "put 0 red; put 1 red; commit; put 2 dog; put 3 dog; commit; put 4 cat; put 5 cat; commit; "
            + "delete 1 3 5; commit = 3; sizes = 3 3 6 0 0 0 3 11 0 6; ";
        String four = "put 0 red; commit; put 1 red; commit; put 2 red; commit; put 3 red; put 4 red; commit; "
            + "delete 4; commit = 4; size 1 2 = 4 5; ";
        sentences.test("Joins segment i (from 0) and the one behind it:",
            three + "merge 0 = 2; sizes = 3 2 4 0 0 0 3 14 0 4; merge 0 = 1; sizes = 3 1 3 0 0 0 3 18 0 3",
            three + "merge 1 = 2; sizes = 3 2 4 0 0 0 3 14 0 4; merge 0 = 1; sizes = 3 1 3 0 0 0 3 18 0 3",
            SIX + "delete 5; commit; merge 4 = 5; size 2 = 5; merge 3 = 4; merge 0 = 3; merge 1 = 2; merge 0 = 1; "
                + "size 2 = 5; holds red = 0 1 2 3 4");
        sentences.test("writes a block for each of their live documents, and the manifest:",
            TWO + "merge 0 = 1; size 7 = 7",
            HALVES + "merge 0 = 1; size 7 = 11",
            TWO + "delete 0; commit; size 7 = 6; merge 0 = 1; size 7 = 8",
            TWO + "delete 0 1; commit; merge 0 = 0; size 7 = 7",
            "add 0 1 2 3 4 5 6 7 8 9 10; commit; add 11; commit; merge 0 = 1; size 7 = 27");
        sentences.test("by that, one segment with these documents takes their place,",
            HALVES + "merge 0 = 1; sizes = 2 1 2 0 0 0 2 11 0 2; holds red = 0; holds dog = 3",
            // In their place: joining the first two again does not touch the last one's deleted document.
            four + "merge 0 = 3; merge 0 = 2; size 2 = 5; merge 0 = 1; size 2 = 4",
            four + "merge 1 = 3; merge 0 = 2; size 2 = 5; merge 0 = 1; size 2 = 4",
            // It can be deleted from, joined and searched like any other.
            TWO + "merge 0 = 1; delete 0; commit = 1; size 2 = 2; put 0 dog; commit = 2; merge 0 = 1; size 2 = 2; "
                + "holds red = 1");
        sentences.test("or none, if there are no such documents.",
            TWO + "delete 0 1; commit = 0; merge 0 = 0; sizes = 0 0 0 0 0 0 0 7 0 0; merge 0 = -1; put 0 red; "
                + "commit = 1",
            SIX + "delete 2 3; commit = 4; merge 2 = 4; sizes = 4 4 4 0 0 0 4 15 0 4; merge 2 = 3; holds red = 0 1 4 5",
            SIX + "delete 4 5; commit = 4; merge 4 = 4; size 2 = 4; merge 3 = -1");
        sentences.test("Answers how many segments there are then;",
            SIX + "merge 0 = 5; merge 3 = 4; merge 1 = 3; merge 1 = 2; merge 0 = 1; size 1 = 1; merge 0 = -1");
        sentences.test("one segment with these documents takes their place",
            // Draft, pending and stack are not spoken of: they stay.
            TWO + BUSY + "merge 0 = 1; size 3 4 5 = 1 2 2; join 1; find = 2; commit = 3; holds bird = 9");
    }

    private static void refusalsOfMerge() {
        sentences.test("DOWN;",
            TWO + STOPPED + "merge 0 1 -1 MIN MAX = -9; size 7 = 5; restart; merge 0 = 1");
        sentences.test("refused with -1 when there is no segment i + 1,",
            "merge 0 1 5 MAX = -1; size 7 = 0",
            ONE + "merge 0 1 2 MAX = -1; size 7 = 2",
            TWO + "merge 1 2 3 MAX = -1; size 7 = 4",
            SIX + "merge 5 6 7 2147483646 MAX = -1; size 7 = 12; merge 4 = 5");
        sentences.test("or i is below 0.",
            "merge -1 MIN = -1",
            ONE + "merge -1 -2 MIN = -1",
            TWO + "merge -1 -2 MIN -2147483647 = -1");
        sentences.changesNothing("refused with -1 when there is no segment i + 1, or i is below 0.",
            HALVES + BUSY + "fuse 4",
            "merge 1 2 -1 MIN MAX = -1",
            "merge 0 = 1; commit = -9",
            "join 0; find = 0; commit = 3",
            "find = -3; feed red = 3; add 5 = 2; commit = 4; holds bird = 9; holds red = 0 5");
        sentences.test("If the machine stops with it, the answer is DOWN.",
            TWO + "fuse 1; merge 0 = -9; size 8 = 1; size 1 = 2",
            TWO + "fuse 2; merge 0 = -9; size 8 = 1; size 1 = 2",
            TWO + "fuse 3; merge 0 = -9; size 8 = 1; size 1 = 1",
            TWO + "fuse 4; merge 0 = 1; size 8 = 0",
            TWO + "delete 0 1; commit; fuse 1; merge 0 = -9; size 8 = 1; size 1 = 0");
    }

    private static void promise8() {
        sentences.under("Promise 8");
        sentences.test("Sets the fuse to k,",
            "fuse 1 = true; delete 0; commit = -9",
            "fuse 2 = true; delete 0; commit = 0; delete 0; commit = -9",
            "fuse 100 = true; " + "delete 0; commit = 0; ".repeat(99) + "delete 0; commit = -9; size 7 = 100",
            "fuse 99 = true; " + "delete 0; commit = 0; ".repeat(98) + "delete 0; commit = -9; size 7 = 99");
        sentences.test("instead of one that was set.",
            "fuse 1 2 = true; delete 0; commit = 0; delete 0; commit = -9",
            "fuse 5 1 = true; delete 0; commit = -9",
            // also of one that burnt in part
            "fuse 2; delete 0; commit = 0; fuse 2 = true; delete 0; commit = 0; delete 0; commit = -9",
            "fuse 3; put 0 red; commit = 1; fuse 3 = true; put 1 red; commit = 2; delete 7; commit = -9; size 7 = 5");
        sentences.test("False when the machine has stopped",
            STOPPED + "fuse 1 50 100 0 101 = false; restart; delete 0; commit = 0; delete 0; commit = 0; size 8 = 0");
        sentences.test("or k is not 1 .. 100.",
            "fuse 0 101 -1 102 MIN MAX = false; " + "delete 0; commit = 0; ".repeat(103) + "size 8 = 0");
        sentences.changesNothing("or k is not 1 .. 100.",
            TWO + BUSY + "fuse 2",
            "fuse 0 101 -1 MIN MAX = false",
            "commit = -9; size 7 = 6; size 0 = 3",
            "merge 0 = -9; size 7 = 6");
    }

    private static void promise9() {
        sentences.under("Promise 9");
        sentences.test("Starts the machine again.",
            TWO + STOPPED + "size 8 = 1; restart = true; size 8 = 0; feed red = 1; add 5 = 1; delete 6 = 2; "
                + "commit = 3; merge 0 = 2; fuse 1 = true; term red = 1; find = 3; commit = -1; term red = 1; "
                + "rank 1 = 1",
            STOPPED + "restart = true; " + STOPPED + "restart = true; " + STOPPED + "size 7 = 3; size 8 = 1; "
                + "restart = true");
        sentences.test("False when it has not stopped.",
            "restart = false; restart = false",
            STOPPED + "restart = true; restart = false; size 8 = 0",
            "fuse 2; delete 0; commit = 0; restart = false");
        sentences.changesNothing("False when it has not stopped.",
            TWO + BUSY + "fuse 2",
            "restart = false",
            "commit = -9; size 7 = 6",
            "join 1; find = 2",
            "feed red = 3; add 4 = 2");
    }
}
