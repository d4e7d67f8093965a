/** Promise 18: size. */
public final class SizeTest {
    private static final Check check = new Check();

    public static void main(String[] args) {
        PostingShelf shelf = new PostingShelf();
        check.dueSizes("new", shelf, 0, 0, 0, 0, 0, 0, 0, 0, 0, 0);
        outOfRange(shelf);

        Check.put(shelf, 0, "cat cats the dog");
        Check.put(shelf, 1, "the a");
        Check.put(shelf, 2, "");
        check.dueSizes("pending", shelf, 0, 0, 0, 3, 0, 0, 0, 0, 0, 0);
        shelf.commit();
        check.dueSizes("committed", shelf, 3, 1, 3, 0, 0, 0, 3, 4, 0, 2);

        Check.put(shelf, 0, "hop hopping hopped bird");
        shelf.delete(2);
        shelf.delete(9);
        Check.feed(shelf, "cat the");
        Check.terms(shelf, "cat the dog");
        check.dueSizes("pending again", shelf, 3, 1, 3, 3, 2, 3, 3, 4, 0, 2);
        shelf.commit();
        // Id 0 has a document in both segments, and entries in both.
        check.dueSizes("committed again", shelf, 2, 2, 4, 0, 2, 3, 4, 7, 0, 4);

        shelf.fuse(1);
        shelf.merge(0);
        check.dueSizes("stopped", shelf, 2, 2, 4, 0, 0, 0, 4, 8, 1, 4);
        outOfRange(shelf);
        shelf.restart();
        check.dueSizes("restarted", shelf, 2, 2, 4, 0, 0, 0, 4, 8, 0, 4);
        shelf.merge(0);
        check.dueSizes("joined", shelf, 2, 1, 2, 0, 0, 0, 4, 11, 0, 2);
        fullest();
        check.end();
    }

    /** Twelve documents of twelve different terms, committed twice (more calls than 512 would be needed for more). */
    private static void fullest() {
        PostingShelf shelf = new PostingShelf();
        for (int commit = 1; commit <= 2; commit++) {
            for (int id = 0; id < 12; id++) {
                Check.put(shelf, id, "b c d e f g h i j k l m");
            }
            check.due("fullest, commit()", shelf.commit(), 12);
        }
        check.dueSizes("fullest", shelf, 12, 2, 24, 0, 0, 0, 144, 27, 0, 288);
        check.due("fullest, merge(0)", shelf.merge(0), 1);
        check.dueSizes("fullest, joined", shelf, 12, 1, 12, 0, 0, 0, 144, 40, 0, 144);
    }

    private static void outOfRange(PostingShelf shelf) {
        for (int what : new int[] {-1, 10, 11, Integer.MIN_VALUE, Integer.MAX_VALUE}) {
            check.due("size(" + what + ")", shelf.size(what), -1);
        }
    }
}
