/** What the document says under WEIGHT and in promises 14, 16 and 17, sentence by sentence. */
public final class RankSentencesTest {
    private static final Sentences sentences = new Sentences();
    private static final String STOPPED = "delete 7; fuse 1; commit = -9; ";
    /** One word each: D * N / L is 1, so that a term that is there once has its I as weight. */
    private static final String FOUR = "put 0 cat; put 1 cat; put 2 dog; put 3 cat; commit = 4; ";
    /** N = 3, L = 8, F = 3: I = 133, and the weights of cat are 110, 126 and 178. */
    private static final String RISING = "put 0 cat dog bird fish; put 1 cat bird bird; put 2 cat; commit = 3; ";
    private static final String FALLING = "put 2 cat dog bird fish; put 1 cat bird bird; put 0 cat; commit = 3; ";

    public static void main(String[] args) {
        weight();
        quotients();
        bags();
        best();
        weighed();
        promise14();
        malformed();
        promise16();
        promise17();
        sentences.end();
    }

    private static String twelve(String... texts) {
        StringBuilder run = new StringBuilder();
        for (int id = 0; id < 12; id++) {
            run.append("put " + id + " " + texts[Math.min(id, texts.length - 1)] + "; ");
        }
        return run + "commit = 12; ";
    }

    private static void weight() {
        sentences.under("WEIGHT");
        sentences.test("With N live documents and L the sum of their lengths:",
            // N = L = 1: x = 512, e = 9, I = 144; deleted ones and pending ones count nowhere.
            "put 0 cat; commit; term cat; rank 1 = 1; results = 0:144",
            "put 0 cat; put 1 dog dog dog; put 2 cat; commit; delete 1 2; commit = 1; term cat; rank 1 = 1; "
                + "results = 0:144",
            "put 0 cat; commit; put 1 dog; delete 0; feed red; term cat; rank 1 = 1; results = 0:144",
            // a document without words counts for N, and a stop word not for L: N = 2, L = 1, x = 768, I = 152
            "put 0 cat the; add 1; commit = 2; size 6 = 1; term cat; rank 1 = 1; results = 0:107");
        sentences.test("a term that F of the live documents have,",
            // F counts documents, not places: x = 640, I = 148; 651200 / 3740 and 325600 / 2020
            "put 0 cat cat; put 1 cat; put 2 dog; put 3 dog; commit; term cat; rank 5 = 2; results = 0:174 1:161",
            // no live document has it
            "put 0 cat; commit; term dog; rank 1 = 0",
            "term dog; rank 1 = 0",
            "put 0 the; commit; term the; rank 1 = 0",
            "add 0; add 1; commit = 2; size 6 = 0; term dog; rank 1 = 0; weighed = 0");
        sentences.test("T times (T above 0)",
            // N = 1: D = T = L
            "put 0 cat cat; commit; term cat; rank 1; results = 0:198",
            "put 0 " + "cat ".repeat(12) + "; commit; term cat; rank 1; results = 0:288",
            "put 0 cat cat dog; commit; term cat; rank 1; results = 0:198; term dog; rank 1; results = 0:144");
        sentences.test("in a document of length D,",
            // the place of a stop word does not count, a word that is there twice does: 299200 / 1660 and 299200 / 2740
            "put 0 cat the the the; put 1 cat dog dog dog; commit = 2; term cat; rank 2 = 2; results = 0:180 1:109");
    }

    private static void quotients() {
        sentences.test("has there the weight I * T * 2200 / (1000 * T + 300 + 900 * D * N / L),",
            // 138 * 2 * 2200 / 3100 = 195, 138 * 2200 / 2900 = 104, 138 * 2200 / 2100 = 144
            "put 0 cat the cats; put 1 cat dog fish fish; put 2 fish a cat; put 3 bird; commit; size 6 = 9; term cat; "
                + "rank 5 = 3; results = 0:195 2:144 1:104",
            // 132 * 2200 / 1750 = 165.9, / 2200 = 132.0, / 2650 = 109.6: any other number in it would tell
            "put 0 cat; put 1 cat dog; put 2 cat dog; put 3 cat dog dog; commit = 4; size 6 = 8; term cat; rank 5 = 4; "
                + "results = 0:165 1:132 2:132 3:109",
            // The longest beside the shortest: N = 12, L = 12, D = 12; 186 * 2200 / (1300 + 10800) = 33.
            twelve("b c d e f g h i j k l m", "") + "term m; rank 1; results = 0:33",
            twelve("b c d e f g h i j k l m", "") + "term b c d e f g h i; rank 1; results = 0:264");
        sentences.test("where I = 16 * e + x * 16 / 2^e - 16 with x = (N + 1) * 256 / F",
            FOUR + "term cat; rank 1; results = 0:138; term dog; rank 1; results = 2:164",
            twelve("cat", "dog") + "term cat; rank 1; results = 0:186; term dog; rank 1; results = 1:130",
            twelve("dog") + "term dog; rank 1; results = 0:129");
        sentences.test("and e the greatest number such that 2^e is not above x.",
            // x = 512, 1024 and 2048: 2^e is x itself
            "put 0 cat; commit; term cat; rank 1; results = 0:144",
            "put 0 cat; put 1 dog; put 2 dog; commit; term cat; rank 1; results = 0:160",
            "put 0 cat; put 1 dog; put 2 dog; put 3 dog; put 4 dog; put 5 dog; put 6 dog; commit; term cat; rank 1; "
                + "results = 0:176",
            // x = 384 and 341: between
            "put 0 cat; put 1 cat; commit; term cat; rank 1; results = 0:136",
            "put 0 cat; put 1 cat; put 2 cat; commit; term cat; rank 1; results = 0:133");
        sentences.test("(All quotients are rounded down.)",
            // (N + 1) * 256 / F: 10 * 256 / 7 = 365.7, I = 134
            "put 0 cat; put 1 cat; put 2 cat; put 3 cat; put 4 cat; put 5 cat; put 6 cat; put 7 dog; put 8 dog; "
                + "commit = 9; term cat; rank 1; results = 0:134",
            // x * 16 / 2^e: 298 * 16 / 256 = 18.6, I = 130
            "put 0 cat; put 1 cat; put 2 cat; put 3 cat; put 4 cat; put 5 cat; commit = 6; term cat; rank 1; "
                + "results = 0:130",
            // 900 * 3 * 3 / 8 = 1012.5, 900 * 1 * 3 / 8 = 337.5; 292600 / 2312 = 126.6, 292600 / 1637 = 178.7
            RISING + "term cat; rank 5; results = 2:178 1:126 0:110",
            // 900 * 1 * 3 / 7 = 385.7: 316800 / 1685 = 188.0, and with 386 it were 187
            "put 0 cat; put 1 cat dog dog; put 2 dog dog dog; commit = 3; size 6 = 7; term cat; rank 2; "
                + "results = 0:188 1:128",
            // one product before one quotient: D * N / L = 2 * 5 / 6 = 1.67 becomes 1500, not 900
            "put 0 cat dog; put 1 dog; put 2 dog; put 3 dog; put 4 dog; commit = 5; size 6 = 6; term cat; rank 1; "
                + "results = 0:132");
    }

    private static void bags() {
        sentences.test("A BAG is a row of terms, and a document's weight for it the sum of the weights of those that "
            + "it has,",
            // bird: F = 2, I = 144: 633600 / 3312 = 191 in 1, 316800 / 2650 = 119 in 0
            RISING + "term cat bird; rank 5 = 3; results = 1:317 0:229 2:178",
            // fish: F = 1, I = 160: 352000 / 2650 = 132
            RISING + "term fish the red cat; rank 1 = 1; results = 0:242");
        sentences.test("a term that is there twice counted twice.",
            FOUR + "term cat cat; rank 1; results = 0:276; term cat cat dog; rank 5 = 4; "
                + "results = 0:276 1:276 3:276 2:164",
            FOUR + "term cats cat; rank 1; results = 0:276",
            FOUR + "term " + "dog ".repeat(8) + "; rank 5 = 1; results = 2:1312");
    }

    private static void best() {
        sentences.test("The BEST k are, of the live documents that have a term of the bag,",
            FOUR + "term dog; rank 5 = 1; results = 2:164",
            FOUR + "term dog cat; rank 5 = 4",
            FOUR + "term bird dog the; rank 5 = 1",
            FOUR + "delete 2; commit; term dog; rank 5 = 0",
            FOUR + "term bird; rank 5 = 0; result 0 = -1");
        sentences.test("those of the greatest weights,",
            RISING + "term cat; rank 1 = 1; results = 2:178; term cat; rank 2 = 2; results = 2:178 1:126",
            FALLING + "term cat; rank 2 = 2; results = 0:178 1:126; term cat; rank 3; results = 0:178 1:126 2:110");
        sentences.test("of equal ones those of the smallest ids,",
            "put 11 cat; commit; put 4 cat; commit; put 7 cat; put 0 cat; commit; merge 1; term cat; rank 3 = 3; "
                + "results = 0:132 4:132 7:132; term cat; rank 1; results = 0:132",
            FOUR + "term cat dog; rank 3 = 3; results = 2:164 0:138 1:138");
        sentences.test("at most k.",
            twelve("cat") + "term cat; rank 5 = 5; result 4 5 = 4 -1; term cat; rank 1 = 1; result 0 1 = 0 -1; "
                + "term cat; rank 4 = 4",
            RISING + "term cat; rank 1 = 1; result 0 1 = 2 -1; term cat; rank 2 = 2; result 0 1 2 = 2 1 -1",
            FOUR + "term cat; rank 3 = 3; term cat; rank 4 = 3; term cat; rank 5 = 3; term cat; rank 2 = 2");
    }

    private static void weighed() {
        sentences.under("WEIGHED");
        sentences.test("the documents that have a term of the bag are gone through by ascending ids;",
            // 0 is weighed first, whichever segment it is in, and then the bounds of the others are not above it
            "put 2 cat dog bird fish; put 1 cat bird bird; commit; put 0 cat; commit = 3; term cat; rank 1; "
                + "weighed = 1",
            "put 0 cat dog bird fish; put 1 cat bird bird; commit; put 2 cat; commit = 3; term cat; rank 1; "
                + "weighed = 3",
            // those that have none are passed over
            FOUR + "term dog; rank 5; weighed = 1",
            FOUR + "term bird the; rank 5; weighed = 0");
        sentences.test("the BOUND of a term is its greatest weight in any live document;",
            // 178, of document 2, is above 110 and 126
            RISING + "term cat; rank 1; weighed = 3; term cat; rank 2; weighed = 3",
            // of a document behind that is never weighed, or was before
            FALLING + "term cat; rank 1; weighed = 1; term cat; rank 2; weighed = 3",
            // of a live one: without document 2 it is not above
            RISING + "delete 2; put 1 cat dog bird fish; commit = 2; term cat; rank 1; weighed = 1");
        sentences.test("a document is weighed if fewer than k were before,",
            FOUR + "term cat; rank 1; weighed = 1; term cat; rank 2; weighed = 2; term cat; rank 3; weighed = 3; "
                + "term cat; rank 5; weighed = 3",
            FOUR + "term dog cat; rank 4; weighed = 4");
        sentences.test("or if the sum of the bounds of the bag's terms that it has",
            // cat and dog have 138 and 164: of those with cat alone none is above 138, that with dog is
            FOUR + "term cat dog; rank 1; weighed = 2; results = 2:164; term cat dog; rank 2; weighed = 3",
            FOUR + "term dog bird the; rank 1; weighed = 1",
            // the terms of an earlier bag do not count
            FOUR + "term bird cat; rank 1; weighed = 1; term cat; rank 1; weighed = 1");
        sentences.test("(a term that is there twice counted twice)",
            // once each, cat dog would weigh 164 in 2; 2 * 138 before it is more
            FOUR + "term cat dog cat; rank 1; weighed = 1; term cat dog dog; rank 1; weighed = 2; results = 2:328",
            "put 0 dog; put 1 cat; put 2 cat; commit = 3; term dog cat; rank 1; weighed = 1; term cat dog cat; rank 1; "
                + "weighed = 2");
        sentences.test("is above the least weight among the k best of those weighed before.",
            // one more is above: 0 has 150, the bound of cat is 151; equal is not
            "put 0 bird dog; put 1 cat bird bird; put 2 bird dog; put 3 bird bird dog; commit = 4; term cat dog; "
                + "rank 1; results = 1:151; weighed = 2; term cat dog; rank 2; results = 1:151 0:150; weighed = 2",
            twelve("cat") + "term cat; rank 1; weighed = 1; term cat; rank 5; weighed = 5",
            // the least of the k best, not the greatest (k = 2), nor the least of all that were weighed (k = 1)
            "put 0 cat; put 1 bird; put 2 dog; put 3 cat; put 4 cat; commit = 5; term cat dog bird; rank 2 = 2; "
                + "weighed = 3; results = 1:168 2:168; term cat dog bird; rank 3; weighed = 3; term cat dog bird; "
                + "rank 1; weighed = 2");
    }

    private static void promise14() {
        sentences.under("Promise 14");
        sentences.test("Takes the stack as a bag;",
            FOUR + "term cat dog cat; rank 5 = 4; results = 0:276 1:276 3:276 2:164",
            FOUR + "term a b c d e f g dog; rank 5 = 1; results = 2:164",
            FOUR + "term dog a b c d e f g; rank 5 = 1; results = 2:164");
        sentences.test("it is empty then.",
            FOUR + "term cat dog; rank 1 = 1; size 5 = 0; rank 1 = -3; term dog = 1; rank 5 = 1");
        sentences.test("Answers how many the best k are: the results are their ids, the best first.",
            FOUR + "term cat dog; rank 3 = 3; result 0 1 2 3 = 2 0 1 -1",
            FOUR + "term bird; rank 3 = 0; result 0 = -1",
            RISING + "term cat; rank 5 = 3; result 0 1 2 3 = 2 1 0 -1");
        sentences.test("DOWN;",
            FOUR + STOPPED + "rank 1 5 0 6 -1 MIN MAX = -9; restart; rank 1 = -3");
        sentences.test("refused with -1 when k is not 1 .. 5",
            FOUR + "term cat; rank 0 6 -1 7 MIN MAX = -1; rank 1 = 1",
            FOUR + "term cat; rank 5 = 3",
            "rank 0 6 = -1",
            // also before the stack is looked at
            FOUR + "term cat; join 2; rank 0 6 = -1; size 5 = 1");
        sentences.test("(the stack stays);",
            FOUR + "term cat dog; rank 6 0 = -1; size 5 = 2; rank 5 = 4",
            FOUR + "term cat dog; join 1; rank 6 = -1; find = 4");
        sentences.changesNothing("refused with -1 when k is not 1 .. 5 (the stack stays);",
            FOUR + "term cat dog; rank 2; feed red; put 5 bird; term cat dog",
            "rank 0 6 -1 MIN MAX = -1",
            "rank 5 = 4",
            "join 1; find = 4",
            "phrase 2 = 1",
            "commit = 5; result 0 = 2; weighed = 3");
    }

    private static void malformed() {
        sentences.test("MALFORMED when the stack is empty",
            "rank 1 = -3",
            FOUR + "rank 5 = -3",
            FOUR + "term cat; find; rank 1 = -3");
        sentences.test("or has something that is no term",
            FOUR + "term cat dog; phrase 2; rank 1 = -3",
            FOUR + "term cat dog; join 0; rank 1 = -3",
            FOUR + "term cat dog; join 1; rank 1 = -3",
            FOUR + "term cat; join 2; rank 1 = -3",
            // the lowest, a middle one, the uppermost
            FOUR + "term cat; join 2; term cat dog; rank 1 = -3",
            FOUR + "term cat dog; join 2; term cat; rank 1 = -3",
            FOUR + "term cat dog cat; join 2; rank 1 = -3",
            FOUR + "term cat; join 2; term a b c d e f g; rank 1 = -3",
            // a stop word's term is one
            FOUR + "term the; rank 1 = 0");
        sentences.test("(it is empty then too,",
            FOUR + "term cat dog; join 2; rank 1 = -3; size 5 = 0; find = -3; term dog = 1; rank 1 = 1");
        sentences.test("and there are no results).",
            FOUR + "term cat; rank 5 = 3; rank 1 = -3; result 0 1 2 = -1; weight 0 1 2 = -1; weighed = 0",
            FOUR + "term cat; find = 3; term cat; join 2; rank 1 = -3; result 0 1 2 = -1; weight 0 1 2 = -1");
    }

    private static void promise16() {
        sentences.under("Promise 16");
        sentences.test("The weight of result i, likewise;",
            FOUR + "term cat dog; rank 2; weight 0 1 = 164 138",
            FOUR + "term cat; rank 1; rank 9 = -1; weight 0 = 138",
            FOUR + "term cat; rank 2; term dog; find = 1; weight 0 1 = 0 -1",
            FOUR + "term cat; find; term dog; rank 5; weight 0 1 = 164 -1",
            FOUR + "term cat; rank 2; " + STOPPED + "weight 0 1 = 138; rank 1 = -9; find = -9; weight 0 1 = 138; "
                + "restart; weight 1 = 138",
            // of then, not of what the documents are now
            FOUR + "term cat; rank 2; delete 0; commit; put 5 cat cat; commit; weight 0 1 = 138");
        sentences.test("-1 when there is no such result.",
            "weight 0 1 -1 MIN MAX = -1",
            FOUR + "term cat; rank 2 = 2; weight 2 3 -1 5 12 MIN MAX = -1",
            FOUR + "term cat; find = 3; weight 2 3 -1 MIN MAX = 0 -1 -1 -1 -1",
            FOUR + "term cat; rank 5; find = -3; weight 0 = -1");
    }

    private static void promise17() {
        sentences.under("Promise 17");
        sentences.test("How many documents were weighed by the latest rank() that was not refused and not DOWN;",
            FOUR + "term cat; rank 2; weighed = 2; term dog; rank 2; weighed = 1; term bird; rank 2; weighed = 0",
            FOUR + "term cat; rank 2; rank 0 6 = -1; weighed = 2; term cat; find; find = -3; weighed = 2",
            FOUR + "term cat; rank 2; " + STOPPED + "weighed = 2; rank 1 = -9; weighed = 2; restart; weighed = 2; "
                + "commit = -1; weighed = 2",
            FOUR + "term cat; rank 2; delete 0; commit; put 5 cat; commit; merge 0; weighed = 2");
        sentences.test("0 when there was none,",
            "weighed = 0",
            FOUR + "weighed = 0; term cat; find = 3; weighed = 0; rank 6 = -1; weighed = 0",
            FOUR + STOPPED + "rank 1 = -9; weighed = 0");
        sentences.test("or it was MALFORMED.",
            FOUR + "term cat; rank 2; rank 1 = -3; weighed = 0; term cat; find; weighed = 0",
            FOUR + "term cat; rank 2; term cat; join 2; rank 1 = -3; weighed = 0",
            "rank 5 = -3; weighed = 0");
    }
}
