/** Promises 14 to 17: rank, result, weight, weighed. */
public final class RankTest {
    private static final Check check = new Check();

    /** The I of a term by N, in rows, and F, both from 1. */
    private static final int[][] RARITIES = {
        {144},
        {152, 136},
        {160, 144, 133},
        {164, 148, 138, 132},
        {168, 152, 144, 136, 131},
        {172, 156, 146, 140, 134, 130},
        {176, 160, 149, 144, 137, 133, 130},
        {178, 162, 152, 146, 140, 136, 132, 130},
        {180, 164, 154, 148, 144, 138, 134, 132, 129},
        {182, 166, 157, 150, 145, 141, 137, 134, 131, 129},
        {184, 168, 160, 152, 147, 144, 139, 136, 133, 131, 129},
        {186, 170, 161, 154, 148, 145, 141, 138, 135, 132, 130, 129},
    };

    public static void main(String[] args) {
        oneTerm();
        rarities();
        weightsByHand();
        bagsAndTies();
        deletedOnesDoNotCount();
        weighedOnes();
        refusals();
        latestRank();
        whenStopped();
        check.end();
    }

    private static PostingShelf shelfOf(String... texts) {
        PostingShelf shelf = new PostingShelf();
        for (int i = 0; i < texts.length; i++) {
            Check.put(shelf, i, texts[i]);
        }
        shelf.commit();
        return shelf;
    }

    private static void dueRank(PostingShelf shelf, String bag, int k, String want, int weighed) {
        Check.terms(shelf, bag);
        String call = "rank(" + k + ") of " + bag;
        check.due(call, shelf.rank(k), want.isEmpty() ? 0 : want.split(" ").length);
        check.dueResults(call, shelf, want);
        check.due(call + ", weighed()", shelf.weighed(), weighed);
        check.due(call + ", size(5)", shelf.size(5), 0);
    }

    /** N = 1, L = 1, F = 1: x = 512, e = 9, I = 144; 144 * 2200 / (1000 + 300 + 900) = 144. */
    private static void oneTerm() {
        PostingShelf shelf = shelfOf("cat");
        dueRank(shelf, "cat", 1, "0:144", 1);
        dueRank(shelf, "cats", 5, "0:144", 1);
        dueRank(shelf, "dog", 1, "", 0);
        dueRank(shelf, "the", 1, "", 0);
        dueRank(shelf, "the cat dog", 3, "0:144", 1);
        dueRank(new PostingShelf(), "cat", 3, "", 0);
        dueRank(shelfOf("", ""), "cat", 3, "", 0);
        dueRank(shelfOf("the a", "an to"), "the", 3, "", 0);
    }

    /** Of documents of one word each, D * N / L is 1, and the weight is I * 2200 / 2200. */
    private static void rarities() {
        for (int n = 1; n <= 12; n++) {
            for (int f = 1; f <= n; f++) {
                PostingShelf shelf = new PostingShelf();
                for (int id = 0; id < n; id++) {
                    Check.put(shelf, id, id < n - f ? "dog" : "cat");
                }
                shelf.commit();
                dueRank(shelf, "cat", 1, (n - f) + ":" + RARITIES[n - 1][f - 1], 1);
            }
        }
    }

    /**
     * N = 4, L = 9. cat: F = 3, x = 1280 / 3 = 426, e = 8, I = 128 + 26 - 16 = 138. dog: F = 1, x = 1280, e = 10,
     * I = 160 + 20 - 16 = 164. fish: F = 2, x = 640, e = 9, I = 144 + 20 - 16 = 148.
     */
    private static void weightsByHand() {
        PostingShelf shelf = shelfOf("cat the cats", "cat dog fish fish", "fish a cat", "bird");
        check.due("L", shelf.size(6), 9);
        // 138 * 2 * 2200 / (2300 + 900 * 2 * 4 / 9 = 800) = 195; 138 * 2200 / (1300 + 1600) = 104; and with 800: 144.
        dueRank(shelf, "cat", 5, "0:195 2:144 1:104", 3);
        // 164 * 2200 / (1300 + 1600) = 124.
        dueRank(shelf, "dog", 5, "1:124", 1);
        // 148 * 4400 / (2300 + 1600) = 166; 148 * 2200 / (1300 + 800) = 155.
        dueRank(shelf, "fish", 5, "1:166 2:155", 2);
        dueRank(shelf, "fish cat dog", 5, "1:394 2:299 0:195", 3);
        dueRank(shelf, "fish dog cat", 2, "1:394 2:299", 3);
        dueRank(shelf, "cat fish cat", 1, "2:443", 3);
    }

    private static void bagsAndTies() {
        PostingShelf shelf = new PostingShelf();
        for (int id : new int[] {11, 4, 7, 2, 9, 0}) {
            Check.put(shelf, id, "cat");
            shelf.commit();
        }
        // N = L = F = 6: x = 298, e = 8, I = 128 + 18 - 16 = 130.
        dueRank(shelf, "cat", 1, "0:130", 1);
        dueRank(shelf, "cat", 3, "0:130 2:130 4:130", 3);
        dueRank(shelf, "cat", 5, "0:130 2:130 4:130 7:130 9:130", 5);
        dueRank(shelf, "cat cat", 2, "0:260 2:260", 2);
        dueRank(shelf, "cat cat cat cat cat cat cat cat", 2, "0:1040 2:1040", 2);
        shelf.merge(0);
        shelf.merge(2);
        dueRank(shelf, "cat dog the", 2, "0:130 2:130", 2);
        check.due("weight(1)", shelf.weight(1), 130);
        check.due("weight(2)", shelf.weight(2), -1);
        check.due("weight(-1)", shelf.weight(-1), -1);
        check.due("weight(min)", shelf.weight(Integer.MIN_VALUE), -1);
        check.due("weight(max)", shelf.weight(Integer.MAX_VALUE), -1);
    }

    private static void deletedOnesDoNotCount() {
        PostingShelf shelf = shelfOf("cat", "cat dog", "cat cat cat dog bird fish", "dog");
        shelf.delete(1);
        shelf.delete(2);
        shelf.delete(3);
        shelf.commit();
        dueRank(shelf, "cat", 5, "0:144", 1);
        Check.put(shelf, 0, "dog");
        dueRank(shelf, "cat dog", 5, "0:144", 1);
        shelf.commit();
        dueRank(shelf, "cat dog", 5, "0:144", 1);
        dueRank(shelf, "cat", 5, "", 0);
    }

    /** A document is weighed when its bounds are above the k-th best before it, not when they are equal. */
    private static void weighedOnes() {
        // N = 4, L = 4, each of length 1: cat F = 3, I = 138 and weight 138; dog F = 1, I = 164 and weight 164.
        PostingShelf shelf = shelfOf("cat", "cat", "dog", "cat");
        dueRank(shelf, "cat", 1, "0:138", 1);
        dueRank(shelf, "cat", 2, "0:138 1:138", 2);
        dueRank(shelf, "cat dog", 1, "2:164", 2);
        dueRank(shelf, "cat dog", 2, "2:164 0:138", 3);
        dueRank(shelf, "cat dog", 3, "2:164 0:138 1:138", 3);
        dueRank(shelf, "cat dog", 4, "2:164 0:138 1:138 3:138", 4);
        dueRank(shelf, "cat dog cat", 1, "0:276", 1);
        // The bound is of the term's best document, also when that comes later or was not weighed itself:
        // N = 3, L = 8, F = 3: x = 341, I = 133; lengths 4, 3, 1: 900 * D * 3 / 8 = 1350, 1012, 337.
        PostingShelf other = shelfOf("cat dog bird fish", "cat bird bird", "cat");
        // 133 * 2200 / (1300 + 1350) = 110, / 2312 = 126, / 1637 = 178.
        dueRank(other, "cat", 1, "2:178", 3);
        dueRank(other, "cat", 2, "2:178 1:126", 3);
        PostingShelf falling = shelfOf("cat", "cat bird bird", "cat dog bird fish");
        dueRank(falling, "cat", 1, "0:178", 1);
        dueRank(falling, "cat", 2, "0:178 1:126", 3);
        // A bound of an earlier bag is no bound of a later one: dog, in one document alone, outweighs cat.
        PostingShelf twice = shelfOf("cat", "cat", "cat", "dog");
        dueRank(twice, "dog", 1, "3:164", 1);
        dueRank(twice, "cat", 1, "0:138", 1);
    }

    private static void refusals() {
        PostingShelf shelf = shelfOf("cat", "dog cat");
        Check.terms(shelf, "cat");
        for (int k : new int[] {0, 6, -1, Integer.MIN_VALUE, Integer.MAX_VALUE}) {
            check.due("rank(" + k + ")", shelf.rank(k), -1);
            check.due("refused, size(5)", shelf.size(5), 1);
        }
        check.due("rank(5)", shelf.rank(5), 2);
        check.due("rank(1) of none", shelf.rank(1), -3);
        check.dueResults("malformed", shelf, "");
        check.due("malformed, weighed()", shelf.weighed(), 0);
        check.due("rank(6) of none", shelf.rank(6), -1);
        // N = 2, L = 3, F = 1: x = 768, I = 144 + 24 - 16 = 152; 152 * 2200 / (1300 + 900 * 2 * 2 / 3) = 133.
        dueRank(shelf, "dog", 1, "1:133", 1);
        Check.terms(shelf, "cat dog");
        shelf.phrase(2);
        Check.terms(shelf, "cat");
        check.due("rank(1) with a phrase", shelf.rank(1), -3);
        check.due("with a phrase, size(5)", shelf.size(5), 0);
        check.dueResults("with a phrase", shelf, "");
        check.due("with a phrase, weighed()", shelf.weighed(), 0);
        Check.terms(shelf, "cat dog");
        shelf.join(2);
        check.due("rank(7) with a not", shelf.rank(7), -1);
        check.due("rank(1) with a not", shelf.rank(1), -3);
        Check.terms(shelf, "cat dog");
        shelf.join(1);
        check.due("rank(1) of a join", shelf.rank(1), -3);
    }

    private static void latestRank() {
        PostingShelf shelf = shelfOf("cat", "dog cat", "cat bird");
        Check.terms(shelf, "cat");
        check.due("rank(2)", shelf.rank(2), 2);
        // The bound of cat, its weight in the shorter document 0, is above the weight of document 1.
        check.due("weighed()", shelf.weighed(), 3);
        Check.terms(shelf, "bird");
        check.due("find()", shelf.find(), 1);
        check.dueResults("find() behind a rank()", shelf, "2");
        check.due("find() leaves weighed()", shelf.weighed(), 3);
        check.due("find() malformed", shelf.find(), -3);
        check.due("find() malformed leaves weighed()", shelf.weighed(), 3);
        check.due("rank(0)", shelf.rank(0), -1);
        check.due("a refused rank() leaves weighed()", shelf.weighed(), 3);
        shelf.delete(0);
        shelf.commit();
        check.due("a commit leaves weighed()", shelf.weighed(), 3);
    }

    private static void whenStopped() {
        PostingShelf shelf = shelfOf("cat");
        dueRank(shelf, "cat", 1, "0:144", 1);
        shelf.delete(0);
        shelf.fuse(2);
        check.due("commit()", shelf.commit(), -9);
        check.due("stopped, rank(1)", shelf.rank(1), -9);
        check.dueResults("stopped", shelf, "0:144");
        check.due("stopped, weighed()", shelf.weighed(), 1);
        shelf.restart();
        check.due("restarted, size(0)", shelf.size(0), 0);
        check.dueResults("restarted", shelf, "0:144");
        check.due("restarted, weighed()", shelf.weighed(), 1);
    }
}
