/** Promises 1 and 3 to 5: a new object, feed, add, delete. */
public final class DraftTest {
    private static final Check check = new Check();

    public static void main(String[] args) {
        newObject();
        feeding();
        adding();
        deleting();
        whenStopped();
        check.end();
    }

    private static void newObject() {
        PostingShelf shelf = new PostingShelf();
        check.dueSizes("new", shelf, 0, 0, 0, 0, 0, 0, 0, 0, 0, 0);
        check.due("new, result(0)", shelf.result(0), -1);
        check.due("new, weight(0)", shelf.weight(0), -1);
        check.due("new, weighed()", shelf.weighed(), 0);
        check.due("new, restart()", shelf.restart(), false);
        check.due("new, commit()", shelf.commit(), -1);
        check.due("new, merge(0)", shelf.merge(0), -1);
        check.due("new, find()", shelf.find(), -3);
        // No fuse: more blocks than any fuse has.
        for (int i = 0; i < 110; i++) {
            shelf.delete(i % 12);
            check.due("new, commit() " + i, shelf.commit(), 0);
        }
        check.due("new, size(7)", shelf.size(7), 110);
        // What one object does, another does not see.
        check.dueSizes("another", new PostingShelf(), 0, 0, 0, 0, 0, 0, 0, 0, 0, 0);
    }

    private static void feeding() {
        PostingShelf shelf = new PostingShelf();
        for (long none : new long[] {0L, 27L, 32L, -1L, 1L << 60, Long.MIN_VALUE, Long.MAX_VALUE}) {
            check.due("feed(" + none + ")", shelf.feed(none), -1);
        }
        check.due("refused words, size(4)", shelf.size(4), 0);
        for (int i = 1; i <= 12; i++) {
            check.due("feed a word", shelf.feed(i == 5 ? Check.word("the") : i), i);
            check.due("fed, size(4)", shelf.size(4), i);
        }
        check.due("feed a 13th", shelf.feed(1L), -1);
        check.due("a full draft, feed(0)", shelf.feed(0L), -1);
        check.due("refused, size(4)", shelf.size(4), 12);
        check.due("add(0)", shelf.add(0), 1);
        check.due("added, size(4)", shelf.size(4), 0);
        check.due("feed behind it", shelf.feed(26L), 1);
        check.due("commit()", shelf.commit(), 1);
        check.due("commit leaves the draft", shelf.size(4), 1);
        // a is the first stop word, e was replaced by the.
        check.due("length", shelf.size(6), 10);
    }

    private static void adding() {
        PostingShelf shelf = new PostingShelf();
        Check.feed(shelf, "cat dog");
        for (int id : new int[] {-1, 12, 13, Integer.MIN_VALUE, Integer.MAX_VALUE, 32}) {
            check.due("add(" + id + ")", shelf.add(id), -1);
        }
        check.due("refused, size(3)", shelf.size(3), 0);
        check.due("refused, size(4)", shelf.size(4), 2);
        check.due("add(11)", shelf.add(11), 1);
        check.due("add(0) without words", shelf.add(0), 2);
        check.due("add(11) anew", Check.put(shelf, 11, "bird"), 2);
        check.due("size(3)", shelf.size(3), 2);
        check.due("pending is not live", shelf.size(0), 0);
        check.due("commit()", shelf.commit(), 2);
        check.due("blocks", shelf.size(7), 3);
        check.due("length", shelf.size(6), 1);
        Check.terms(shelf, "cat");
        check.due("the document in whose place another came", shelf.find(), 0);
        Check.terms(shelf, "bird");
        check.due("find()", shelf.find(), 1);
        check.dueResults("bird", shelf, "11");
        // A later change of the draft does not reach a document.
        Check.feed(shelf, "fish");
        Check.terms(shelf, "fish");
        check.due("find() of the draft", shelf.find(), 0);
        for (int id = 0; id < 12; id++) {
            check.due("add(" + id + ")", shelf.add(id), id + 1);
        }
    }

    private static void deleting() {
        PostingShelf shelf = new PostingShelf();
        for (int id : new int[] {-1, 12, Integer.MIN_VALUE, Integer.MAX_VALUE, 35}) {
            check.due("delete(" + id + ")", shelf.delete(id), -1);
        }
        check.due("refused, size(3)", shelf.size(3), 0);
        check.due("delete of no document", shelf.delete(4), 1);
        check.due("delete once more", shelf.delete(4), 1);
        Check.feed(shelf, "dog");
        check.due("delete(0)", shelf.delete(0), 2);
        check.due("delete leaves the draft", shelf.size(4), 1);
        check.due("add in place of a deletion", shelf.add(4), 2);
        check.due("add(5)", Check.put(shelf, 5, "cat"), 3);
        check.due("delete in place of a document", shelf.delete(5), 3);
        check.due("commit()", shelf.commit(), 1);
        check.due("blocks", shelf.size(7), 2);
        Check.terms(shelf, "dog cat");
        shelf.join(1);
        check.due("find()", shelf.find(), 1);
        check.dueResults("dog or cat", shelf, "4");
        check.due("delete(4)", shelf.delete(4), 1);
        check.due("till the commit it is live", shelf.size(0), 1);
        check.due("commit()", shelf.commit(), 0);
    }

    private static void whenStopped() {
        PostingShelf shelf = new PostingShelf();
        Check.put(shelf, 3, "cat");
        Check.feed(shelf, "dog");
        shelf.fuse(1);
        check.due("commit()", shelf.commit(), -9);
        for (int id : new int[] {0, 3, 12, -1}) {
            check.due("stopped, add(" + id + ")", shelf.add(id), -9);
            check.due("stopped, delete(" + id + ")", shelf.delete(id), -9);
        }
        check.due("stopped, feed of a word", shelf.feed(1L), -9);
        check.due("stopped, feed of none", shelf.feed(0L), -9);
        check.due("stopped, size(3)", shelf.size(3), 0);
        check.due("stopped, size(4)", shelf.size(4), 0);
    }
}
