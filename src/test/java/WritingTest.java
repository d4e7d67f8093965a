/** Promises 6 to 9: commit, merge, fuse, restart. */
public final class WritingTest {
    private static final Check check = new Check();

    public static void main(String[] args) {
        committing();
        fullShelf();
        merging();
        mergingAmongSix();
        stopAtEachBlockOfCommit();
        stopAtEachBlockOfMerge();
        fuseOverSeveralCalls();
        fuseRange();
        stoppedMachine();
        check.end();
    }

    private static void committing() {
        PostingShelf shelf = new PostingShelf();
        check.due("commit() of nothing", shelf.commit(), -1);
        Check.put(shelf, 2, "cat dog");
        Check.put(shelf, 7, "cat");
        Check.terms(shelf, "cat");
        check.due("commit() of two", shelf.commit(), 2);
        check.dueSizes("two", shelf, 2, 1, 2, 0, 0, 1, 3, 3, 0, 3);
        check.due("the stack stays", shelf.find(), 2);
        check.due("commit() anew", shelf.commit(), -1);
        shelf.delete(5);
        check.due("commit() of a deletion of none", shelf.commit(), 2);
        check.dueSizes("none deleted", shelf, 2, 1, 2, 0, 0, 0, 3, 4, 0, 3);
        shelf.delete(2);
        shelf.delete(7);
        check.due("commit() of two deletions", shelf.commit(), 0);
        check.dueSizes("both deleted", shelf, 0, 1, 2, 0, 0, 0, 0, 6, 0, 3);
        shelf.delete(2);
        check.due("commit() of a deletion of a deleted one", shelf.commit(), 0);
        check.due("no block for deleted ones", shelf.size(7), 7);
        Check.put(shelf, 2, "bird");
        check.due("commit() of a document where a deleted one was", shelf.commit(), 1);
        check.dueSizes("again", shelf, 1, 2, 3, 0, 0, 0, 1, 9, 0, 4);
        Check.put(shelf, 2, "fish bird");
        Check.put(shelf, 3, "");
        shelf.delete(4);
        check.due("commit() in place of a live one", shelf.commit(), 2);
        check.dueSizes("replaced", shelf, 2, 3, 5, 0, 0, 0, 2, 13, 0, 6);
    }

    private static void fullShelf() {
        PostingShelf shelf = new PostingShelf();
        for (int i = 0; i < 6; i++) {
            Check.put(shelf, i, "cat");
            check.due("commit() " + i, shelf.commit(), i + 1);
        }
        Check.put(shelf, 0, "dog");
        shelf.delete(1);
        check.due("commit() of a seventh", shelf.commit(), -2);
        check.dueSizes("refused", shelf, 6, 6, 6, 2, 0, 0, 6, 12, 0, 6);
        shelf.delete(0);
        check.due("commit() of deletions alone", shelf.commit(), 4);
        check.due("blocks", shelf.size(7), 14);
        check.due("commit() of nothing with six", shelf.commit(), -1);
        Check.put(shelf, 8, "dog");
        check.due("six again, commit()", shelf.commit(), -2);
        check.due("merge(0) of two without live ones", shelf.merge(0), 4);
        check.due("the manifest alone", shelf.size(7), 15);
        check.due("merge leaves what is pending", shelf.size(3), 1);
        check.due("commit()", shelf.commit(), 5);
        check.dueSizes("after all", shelf, 5, 5, 5, 0, 0, 0, 5, 17, 0, 5);
    }

    private static void merging() {
        PostingShelf shelf = new PostingShelf();
        Check.put(shelf, 0, "cat");
        check.due("commit()", shelf.commit(), 1);
        for (int i : new int[] {0, 1, -1, Integer.MAX_VALUE, Integer.MIN_VALUE}) {
            check.due("one segment, merge(" + i + ")", shelf.merge(i), -1);
        }
        Check.put(shelf, 1, "dog");
        Check.put(shelf, 2, "dog dog");
        shelf.commit();
        for (int i : new int[] {1, 2, -1, Integer.MAX_VALUE, Integer.MIN_VALUE}) {
            check.due("two segments, merge(" + i + ")", shelf.merge(i), -1);
        }
        shelf.delete(1);
        shelf.commit();
        check.dueSizes("before", shelf, 2, 2, 3, 0, 0, 0, 3, 7, 0, 3);
        Check.terms(shelf, "dog");
        Check.feed(shelf, "bird");
        check.due("merge(0)", shelf.merge(0), 1);
        check.dueSizes("joined", shelf, 2, 1, 2, 0, 1, 1, 3, 10, 0, 2);
        check.due("find()", shelf.find(), 1);
        check.dueResults("dog", shelf, "2");
        // What was joined can be deleted and joined again.
        shelf.delete(2);
        shelf.add(5);
        check.due("commit()", shelf.commit(), 2);
        check.due("merge(0) again", shelf.merge(0), 1);
        check.dueSizes("joined again", shelf, 2, 1, 2, 0, 0, 0, 2, 16, 0, 2);
        shelf.delete(0);
        shelf.delete(5);
        Check.put(shelf, 6, "cat");
        check.due("commit()", shelf.commit(), 1);
        shelf.delete(6);
        check.due("commit()", shelf.commit(), 0);
        check.due("two without live ones stay", shelf.size(1), 2);
        check.due("merge(0) to none", shelf.merge(0), 0);
        check.dueSizes("none", shelf, 0, 0, 0, 0, 0, 0, 0, 22, 0, 0);
    }

    /** Which two are joined, and where the joined one stands, is told by the deleted ones that go. */
    private static void mergingAmongSix() {
        for (int at = 0; at < 5; at++) {
            PostingShelf shelf = new PostingShelf();
            for (int i = 0; i < 6; i++) {
                Check.put(shelf, i, "cat");
                Check.put(shelf, 6 + i, "dog");
                shelf.commit();
            }
            shelf.delete(at);
            shelf.delete(at + 1);
            check.due("commit()", shelf.commit(), 10);
            check.due("before, size(2)", shelf.size(2), 12);
            check.due("merge(" + at + ")", shelf.merge(at), 5);
            check.due("joined, size(2)", shelf.size(2), 10);
            check.due("joined, blocks", shelf.size(7), 23);
            // The joined segment has two documents: joining it with the one behind or before it writes four and one.
            int neighbour = at < 4 ? at : at - 1;
            check.due("merge(" + neighbour + ")", shelf.merge(neighbour), 4);
            check.due("joined twice, blocks", shelf.size(7), 28);
            check.due("live", shelf.size(0), 10);
            Check.terms(shelf, "dog");
            check.due("find()", shelf.find(), 6);
            check.dueResults("dog", shelf, "6 7 8 9 10 11");
        }
    }

    private static void stopAtEachBlockOfCommit() {
        for (int k = 1; k <= 4; k++) {
            PostingShelf shelf = new PostingShelf();
            Check.put(shelf, 0, "cat");
            shelf.commit();
            Check.put(shelf, 0, "dog");
            Check.put(shelf, 1, "dog bird");
            Check.feed(shelf, "fish");
            Check.terms(shelf, "cat dog");
            check.due("fuse(" + k + ")", shelf.fuse(k), true);
            // Two documents, the deletion and the manifest: four blocks.
            check.due("commit() stopped by " + k, shelf.commit(), -9);
            boolean done = k == 4;
            check.dueSizes("stopped by " + k, shelf,
                done ? 2 : 1, done ? 2 : 1, done ? 3 : 1, 0, 0, 0, done ? 3 : 1, 2 + k, 1, done ? 4 : 1);
            check.due("restart()", shelf.restart(), true);
            check.dueSizes("restarted", shelf,
                done ? 2 : 1, done ? 2 : 1, done ? 3 : 1, 0, 0, 0, done ? 3 : 1, 2 + k, 0, done ? 4 : 1);
            Check.terms(shelf, "cat");
            check.due("find() of the old one", shelf.find(), done ? 0 : 1);
            Check.terms(shelf, "dog");
            check.due("find() of the new ones", shelf.find(), done ? 2 : 0);
            check.due("commit() of nothing", shelf.commit(), -1);
            // The fuse is gone.
            Check.put(shelf, 5, "fish");
            check.due("commit() behind it", shelf.commit(), done ? 3 : 2);
        }
    }

    private static void stopAtEachBlockOfMerge() {
        for (int k = 1; k <= 3; k++) {
            PostingShelf shelf = new PostingShelf();
            Check.put(shelf, 0, "cat");
            Check.put(shelf, 1, "cat");
            shelf.commit();
            Check.put(shelf, 1, "dog");
            shelf.commit();
            Check.put(shelf, 3, "bird");
            Check.feed(shelf, "fish");
            Check.terms(shelf, "cat dog");
            shelf.fuse(k);
            check.due("merge(0) stopped by " + k, shelf.merge(0), -9);
            boolean done = k == 3;
            check.dueSizes("merge stopped by " + k, shelf,
                2, done ? 1 : 2, done ? 2 : 3, 0, 0, 0, 2, 6 + k, 1, done ? 2 : 3);
            check.due("merge(0) when stopped", shelf.merge(0), -9);
            check.due("restart()", shelf.restart(), true);
            check.due("merge(0) behind it", shelf.merge(0), done ? -1 : 1);
            Check.terms(shelf, "dog");
            check.due("find()", shelf.find(), 1);
            check.dueResults("dog", shelf, "1");
        }
    }

    private static void fuseOverSeveralCalls() {
        PostingShelf shelf = new PostingShelf();
        check.due("fuse(6)", shelf.fuse(6), true);
        Check.put(shelf, 0, "cat");
        check.due("commit(), blocks 1 and 2", shelf.commit(), 1);
        check.due("commit() of nothing writes none", shelf.commit(), -1);
        check.due("merge(0) of nothing writes none", shelf.merge(0), -1);
        Check.put(shelf, 1, "dog");
        check.due("commit(), blocks 3 and 4", shelf.commit(), 2);
        check.due("merge(0), block 5 and 6", shelf.merge(0), -9);
        check.dueSizes("stopped", shelf, 2, 2, 2, 0, 0, 0, 2, 6, 1, 2);
        check.due("restart()", shelf.restart(), true);
        check.due("merge(0)", shelf.merge(0), 1);
        check.due("blocks", shelf.size(7), 9);
        // A fuse stands in for the one before it, and counts from then on.
        shelf.fuse(1);
        shelf.fuse(3);
        Check.put(shelf, 2, "bird");
        check.due("commit() with two of three", shelf.commit(), 3);
        shelf.fuse(2);
        shelf.delete(9);
        check.due("commit() with one of two", shelf.commit(), 3);
        shelf.delete(9);
        check.due("commit() with two of two", shelf.commit(), -9);
        check.due("blocks", shelf.size(7), 13);
        // A fuse that is refused leaves the one before it.
        shelf.restart();
        shelf.fuse(1);
        check.due("fuse(0)", shelf.fuse(0), false);
        check.due("restart() of a running machine", shelf.restart(), false);
        shelf.delete(9);
        check.due("commit() with the old fuse", shelf.commit(), -9);
    }

    private static void fuseRange() {
        for (int k : new int[] {0, -1, 101, Integer.MIN_VALUE, Integer.MAX_VALUE}) {
            check.due("fuse(" + k + ")", new PostingShelf().fuse(k), false);
        }
        PostingShelf shelf = new PostingShelf();
        check.due("fuse(100)", shelf.fuse(100), true);
        for (int i = 1; i < 100; i++) {
            shelf.delete(0);
            check.due("commit() " + i, shelf.commit(), 0);
        }
        shelf.delete(0);
        check.due("commit() 100", shelf.commit(), -9);
    }

    private static void stoppedMachine() {
        PostingShelf shelf = new PostingShelf();
        for (int i = 0; i < 2; i++) {
            Check.put(shelf, i, "cat");
            shelf.commit();
        }
        shelf.delete(4);
        shelf.fuse(1);
        check.due("commit() with which it stops", shelf.commit(), -9);
        check.due("stopped, commit()", shelf.commit(), -9);
        for (int i : new int[] {0, 5, -1}) {
            check.due("stopped, merge(" + i + ")", shelf.merge(i), -9);
            check.due("stopped, fuse(" + i + ")", shelf.fuse(i), false);
        }
        check.dueSizes("stopped", shelf, 2, 2, 2, 0, 0, 0, 2, 5, 1, 2);
        check.due("restart()", shelf.restart(), true);
        check.due("restart() twice", shelf.restart(), false);
        // A fuse that was refused was not set.
        check.due("merge(0)", shelf.merge(0), 1);
        check.due("blocks", shelf.size(7), 8);
    }
}
