/** What the document says under QUERIES and in promises 10 to 13 and 15, sentence by sentence. */
public final class QuerySentencesTest {
    private static final Sentences sentences = new Sentences();
    private static final String STOPPED = "delete 7; fuse 1; commit = -9; ";
    private static final String NO_WORDS = "0 27 31 32 1026 -1 1152921504606846978 -9223372036854775806";
    /** Documents of every kind over red and dog. */
    private static final String FOUR = "add 0; put 1 red; put 2 dog; put 3 red dog; commit = 4; ";
    private static final String NOT_FIVE = "join 2; ".repeat(5);
    private static final String NOT_SIX = "join 2; ".repeat(6);

    public static void main(String[] args) {
        stack();
        phrases();
        joins();
        depths();
        promise10();
        promise11();
        promise12();
        promise13();
        promise15();
        sentences.end();
    }

    private static void stack() {
        sentences.under("QUERIES");
        sentences.test("QUERIES are put together on a STACK of at most eight.",
            "term a b c d e f g h = 1 2 3 4 5 6 7 8; term i = -1; size 5 = 8",
            "term a b c d e f g h; phrase 2 = 7; term i = 8; term j = -1; join 0 = 7; term i = 8; join 2 = 8; "
                + "term j = -1",
            "term a b c d e f g h; phrase 8 = 1; term b c d e f g h = 2 3 4 5 6 7 8; term i = -1");
        sentences.test("A TERM is a word's stem",
            "put 0 cats; put 1 hop; commit; holds cat = 0; holds cats = 0; holds hopping = 1; holds hopped = 1; "
                + "holds hope =");
        sentences.test("(none, if it is a stop word).",
            "put 0 toed the aed; commit; holds to =; holds tos = 0; holds the =; holds a =; term the = 1; size 5 = 1");
        sentences.test("a term that the document has",
            FOUR + "holds red = 1 3; holds dog = 2 3; holds cat =",
            "put 0 b c d e f g h i j k l m; commit; holds b = 0; holds m = 0");
        sentences.test("(the term none matches nothing);",
            "put 0 the; put 1 a an and in of or the to; add 2; put 3 red; commit; holds the =; holds of =; term the; "
                + "join 2; find = 4; results = 0 1 2 3");
    }

    private static void phrases() {
        sentences.test("a PHRASE of terms, when there is a place p such that the document has the first term at p, the "
            + "second one at p + 1, and so on",
            "put 0 red dog; put 1 dog red; put 2 red cat dog; put 3 cat red dog; put 4 red; put 5 red red dog; commit; "
                + "holds red dog = 0 3 5; holds dog red = 1; holds red red = 5; holds red red red =; "
                + "holds red dog red =",
            // the first places, the last ones, all of them, and one too many
            "put 0 b c d e f g h i j k l m; put 1 c d e f g h i j; commit; holds b c = 0; holds l m = 0; holds m n =; "
                + "holds n b =; holds c d e f g h i j = 0 1; holds f g h i j k l m = 0; holds b c d e f g h i = 0; "
                + "holds g h i j k l m n =; holds d e f g h i j k = 0; holds m b =",
            // A match may begin behind one that broke off.
            "put 0 red red dog; put 1 red dog red dog cat; commit; holds red dog = 0 1; holds red dog cat = 1",
            "put 0 hopping cats; commit; holds hop cat = 0; holds hops catting = 0");
        sentences.test("(a stop word has a place, but no term there,",
            "put 0 red the dog; put 1 the red dog; put 2 red dog the; commit; holds red dog = 1 2; holds red dog red =",
            "put 0 the the the the red dog; commit; holds red dog = 0; size 6 = 2");
        sentences.test("and a phrase in which the term none stands matches nothing);",
            "put 0 red the dog; put 1 the red; put 2 red the; put 3 the a; put 4 red the the dog; commit; "
                + "holds red the dog =; holds the red =; holds red the =; holds the the =; holds the a =; "
                + "holds red a dog =; holds red the the dog =");
    }

    private static void joins() {
        sentences.test("BOTH of two, when each of them does;",
            FOUR + "term red dog; join 0 = 1; find = 1; results = 3; term red red; join 0; find = 2; term red cat; "
                + "join 0; find = 0");
        sentences.test("EITHER of two, when one does;",
            FOUR + "term red dog; join 1 = 1; find = 3; results = 1 2 3; term cat red; join 1; find = 2; term red cat; "
                + "join 1; find = 2; results = 1 3; term cat the; join 1; find = 0");
        sentences.test("NOT of one, when that doesn't.",
            FOUR + "term red; join 2 = 1; find = 2; results = 0 2; term red dog; phrase 2; join 2; find = 3; "
                + "results = 0 1 2; term red; join 2; join 2; find = 2; results = 1 3; term cat; join 2; find = 4");
        sentences.test("What MATCHES a live document:",
            FOUR + "delete 0; put 3 cat; commit = 3; term red; join 2; find = 2; results = 2 3; holds red = 1");
    }

    private static void depths() {
        sentences.test("A term is 0 DEEP,",
            "term red; " + NOT_FIVE + "join 2 = 1; join 2 = -1",
            "term red dog; " + NOT_FIVE + "join 0 = 1; join 2 = -1",
            "term the; " + NOT_SIX + "join 2 = -1");
        sentences.test("a phrase 1,",
            "term red dog; phrase 2; " + "join 2 = 1; ".repeat(5) + "join 2 = -1",
            "term red dog cat; phrase 3; " + "join 2 = 1; ".repeat(5) + "join 2 = -1",
            "term a b c d e f g h; phrase 8; " + "join 2 = 1; ".repeat(5) + "join 2 = -1");
        sentences.test("each of the others one more than the deeper of its parts;",
            // the lower one is the deeper: 5 and 0 make 6
            "term red; " + NOT_FIVE + "term dog; join 0 = 1; join 2 = -1",
            "term red; " + NOT_FIVE + "term dog; join 1 = 1; join 2 = -1",
            // the upper one is
            "term red dog; " + NOT_FIVE + "join 1 = 1; join 2 = -1",
            "term red dog cat; phrase 2; join 1; " + "join 2 = 1; ".repeat(4) + "join 2 = -1",
            // not the sum: 3 and 3 make 4
            "term red; join 2; join 2; join 2; term dog; join 2; join 2; join 2; join 0 = 1; join 2 = 1; join 2 = 1; "
                + "join 2 = -1",
            "term a b c d e f g h; join 0 = 7; join 1 = 6; join 0 = 5; join 1 = 4; join 0 = 3; join 1 = 2; "
                + "join 0 1 = -1; join 2 = -1");
        sentences.test("nothing is more than 6 deep.",
            "term red; " + NOT_SIX + "join 2 = -1; size 5 = 1; find = 0",
            "term red; " + NOT_SIX + "term dog; join 0 1 = -1; size 5 = 2",
            "term dog red; " + NOT_SIX + "join 0 1 = -1; size 5 = 2",
            FOUR + "term red; " + NOT_SIX + "join 2 = -1; find = 2; results = 1 3",
            // 64 terms, 6 deep, of which the last decides
            FOUR + fullTree() + "size 5 = 1; join 2 = -1; find = 1; results = 3");
    }

    private static String fullTree() {
        StringBuilder run = new StringBuilder();
        for (int i = 1; i <= 64; i++) {
            run.append("term " + (i == 64 ? "dog" : "red") + "; ");
            for (int done = i; done % 2 == 0; done /= 2) {
                run.append("join 0; ");
            }
        }
        return run.toString();
    }

    private static void promise10() {
        sentences.under("Promise 10");
        sentences.test("Puts a word's term onto the stack.",
            FOUR + "term red = 1; find = 2; results = 1 3",
            FOUR + "term the red = 1 2; join 1; find = 2");
        sentences.test("Answers how many are on it;",
            "term a b red the red = 1 2 3 4 5; size 5 = 5; find; term a = 1");
        sentences.test("DOWN;",
            STOPPED + "term red the = -9; term " + NO_WORDS + " = -9; size 5 = 0; restart; term red = 1");
        sentences.test("refused with -1 when word is none",
            "term " + NO_WORDS + " = -1; size 5 = 0; term b = 1; term " + NO_WORDS + " = -1; size 5 = 1");
        sentences.changesNothing("refused with -1 when word is none",
            FOUR + "term red",
            "term " + NO_WORDS + " = -1",
            "find = 2; results = 1 3",
            "term dog = 2; phrase 2 = 1; find = 1; results = 3",
            "rank 5 = 2");
        sentences.test("or eight are there.",
            "term a b c d e f g = 1 2 3 4 5 6 7; term h = 8; term i a the 0 = -1; size 5 = 8",
            "term red; join 2; ".repeat(8) + "term red = -1; join 0 = 7; term red = 8");
        sentences.changesNothing("or eight are there.",
            FOUR + "term " + "red ".repeat(7) + "dog",
            "term cat dog red = -1",
            "rank 5 = 3",
            "phrase 2 = 7; phrase 7 = -1",
            "join 0; ".repeat(6) + "join 0 = -1; find = -3",
            "join 2; join 2; join 0; find = -3; term b = 1");
    }

    private static void promise11() {
        sentences.under("Promise 11");
        sentences.test("In place of the n uppermost of the stack, a phrase of them,",
            FOUR + "term cat red dog; phrase 2 = 2; join 1; find = 1; results = 3",
            "term a b c d; phrase 3 = 2; phrase 2 = -1",
            FOUR + "term red dog red dog; phrase 2 = 3; term dog = 4; phrase 2 = -1; join 1; join 1; join 1; find = 3");
        sentences.test("the lowest of them first.",
            FOUR + "term red dog; phrase 2; find = 1; term dog red; phrase 2; find = 0",
            "put 0 red dog cat; put 1 cat dog red; commit; holds red dog cat = 0; holds cat dog red = 1; "
                + "holds dog red cat =");
        sentences.test("Answers how many are on the stack;",
            "term a b c d e f g h; phrase 2 = 7; term i = 8; find",
            "term a b c d e f g h; phrase 8 = 1",
            "term a b c; phrase 2 = 2; size 5 = 2",
            "term a b; phrase 2 = 1");
        sentences.test("DOWN;",
            STOPPED + "phrase 2 0 1 9 MIN MAX = -9; restart; phrase 2 = -1");
        sentences.test("refused with -1 when n is below 2",
            "term red dog; phrase 1 0 -1 -2 MIN = -1; size 5 = 2",
            "term red; phrase 1 = -1",
            "phrase 0 = -1");
        sentences.test("or above what is on the stack,",
            "phrase 2 = -1",
            "term red; phrase 2 = -1",
            "term red dog; phrase 3 4 8 9 MAX = -1; size 5 = 2; phrase 2 = 1",
            "term a b c d e f g h; phrase 9 = -1; phrase 8 = 1");
        sentences.test("or one of them is no term.",
            // the lowest, a middle one, the uppermost
            "term a b; phrase 2; term c d; phrase 3 = -1; phrase 2 = 2",
            "term a b c; phrase 2; term d; phrase 3 = -1",
            "term a b c; phrase 2; phrase 2 = -1",
            // a phrase, both, either, not
            "term a b; phrase 2; term c; phrase 2 = -1",
            "term a b; join 0; term c; phrase 2 = -1",
            "term a b; join 1; term c; phrase 2 = -1",
            "term a; join 2; term c; phrase 2 = -1; size 5 = 2",
            // a stop word's term is one
            "term the a; phrase 2 = 1; find = 0",
            "term red the dog; phrase 3 = 1");
        sentences.changesNothing("or above what is on the stack,",
            FOUR + "term red dog",
            "phrase 3 4 8 MAX = -1",
            "phrase 2 = 1; find = 1; results = 3",
            "join 1; find = 3",
            "rank 5 = 3");
        sentences.changesNothing("refused with -1 when n is below 2 or above what is on the stack, or one of them is "
            + "no term.",
            FOUR + "term red; join 2; term dog",
            "phrase 2 1 0 -1 3 MIN MAX = -1",
            "join 0; find = 1; results = 2",
            "term red = 3; phrase 2 = 2",
            "join 2; join 1; find = 3; results = 0 1 2");
    }

    private static void promise12() {
        sentences.under("Promise 12");
        sentences.test("In place of the two uppermost: BOTH (how = 0)",
            FOUR + "term cat red dog; join 0 = 2; join 1 = 1; find = 1; results = 3");
        sentences.test("or EITHER (how = 1) of them;",
            FOUR + "term dog red cat; join 1 = 2; join 0 = 1; find = 1; results = 3");
        sentences.test("in place of the uppermost: NOT (how = 2).",
            FOUR + "term red dog; join 2 = 2; join 0 = 1; find = 1; results = 1",
            FOUR + "term red; join 2 = 1; find = 2; results = 0 2");
        sentences.test("Answers how many are on the stack;",
            "term a b c; join 2 = 3; join 0 = 2; join 1 = 1; join 2 = 1; size 5 = 1",
            "term a b c d e f g h; join 2 = 8; join 1 = 7");
        sentences.test("DOWN;",
            STOPPED + "join 0 1 2 3 -1 MIN MAX = -9; restart; join 2 = -1");
        sentences.test("refused with -1 when how is none of these,",
            "term a b; join 3 -1 4 5 MIN MAX = -1; size 5 = 2; join 0 = 1",
            "join 3 -1 = -1");
        sentences.test("there are not so many,",
            "join 0 1 2 = -1",
            "term a; join 0 1 = -1; size 5 = 1; join 2 = 1; join 0 1 = -1",
            "term a b; join 0 = 1; join 1 = -1");
        sentences.test("or it would be more than 6 deep.",
            "term a b; join 0; " + NOT_FIVE + "join 2 = -1; term c; join 0 1 = -1; size 5 = 2; join 2 = 2");
        sentences.changesNothing("refused with -1 when how is none of these, there are not so many,",
            FOUR + "term red",
            "join 3 -1 0 1 MIN MAX = -1",
            "find = 2; results = 1 3",
            "term dog; phrase 2 = 1; find = 1",
            "rank 5 = 2",
            NOT_SIX + "join 2 = -1");
        sentences.changesNothing("or it would be more than 6 deep.",
            FOUR + "term dog; " + NOT_FIVE + "join 2; term red",
            "join 0 1 = -1",
            "find = -3",
            "join 2 = 2; join 0 = -1",
            "term dog; phrase 2 = 2; phrase 2 = -1");
        sentences.changesNothing("or it would be more than 6 deep.",
            FOUR + "term dog; " + NOT_SIX,
            "join 2 = -1",
            "find = 2; results = 2 3",
            "term a = 2; phrase 2 = -1");
    }

    private static void promise13() {
        sentences.under("Promise 13");
        sentences.test("Matches what is on the stack with the live documents;",
            FOUR + "delete 3; commit; holds red = 1",
            "put 0 red; holds red =; commit; holds red = 0",
            // as of what was committed last, not of when the query was put together
            "term red; put 0 red; commit = 1; find = 1; results = 0",
            FOUR + "term red; delete 1; find = 2; commit = 3; holds red = 3");
        sentences.test("the stack is empty then.",
            FOUR + "term red; find = 2; size 5 = 0; find = -3",
            FOUR + "term red dog; join 0; find = 1; size 5 = 0; term red = 1; find = 2");
        sentences.test("Answers how many match: the results are their ids, ascending, with weight 0.",
            "put 11 red; put 3 red; commit; put 7 red; put 0 red; commit; term red; find = 4; results = 0 3 7 11; "
                + "weight 0 1 2 3 = 0; weight 4 = -1",
            "put 11 red; commit; put 3 red; commit; merge 0; holds red = 3 11",
            "add 11 10 9 8 7 6 5 4 3 2 1 0; commit = 12; term red; join 2; find = 12; "
                + "results = 0 1 2 3 4 5 6 7 8 9 10 11; result 12 = -1",
            FOUR + "term cat; find = 0; result 0 = -1; weight 0 = -1",
            "term red; find = 0",
            "term red; join 2; find = 0; result 0 = -1");
        sentences.test("DOWN;",
            FOUR + STOPPED + "find = -9; restart; find = -3");
        sentences.test("MALFORMED when the stack has not just one",
            FOUR + "find = -3",
            FOUR + "term red dog; find = -3",
            "term a b c d e f g h; find = -3",
            FOUR + "term red; find = 2");
        sentences.test("(it is empty then too,",
            FOUR + "term red dog; find = -3; size 5 = 0; term red = 1; find = 2");
        sentences.test("and there are no results).",
            FOUR + "term red; find = 2; find = -3; result 0 = -1; weight 0 = -1",
            FOUR + "term red; rank 5 = 2; term red dog; find = -3; result 0 1 = -1; weight 0 1 = -1");
    }

    private static void promise15() {
        sentences.under("Promise 15");
        sentences.test("The id of result i (from 0)",
            FOUR + "term red; find = 2; result 0 1 = 1 3");
        sentences.test("of the latest find() or rank() that was not refused and not DOWN;",
            FOUR + "term red; find = 2; term dog; find = 2; results = 2 3",
            FOUR + "term red; find; term dog; rank 1 = 1; result 0 1 = 2 -1",
            FOUR + "term dog; rank 1; term red; find = 2; results = 1 3",
            FOUR + "term red; find = 2; rank 0 6 = -1; results = 1 3; term dog; rank -1 = -1; results = 1 3; "
                + "size 5 = 1",
            FOUR + "term red; find = 2; " + STOPPED + "find = -9; rank 1 = -9; results = 1 3",
            FOUR + "term red; find = 2; term cat; find = 0; result 0 = -1",
            FOUR + "term red; find = 2; rank 1 = -3; result 0 = -1",
            // Other calls leave them.
            FOUR + "term red; find = 2; delete 1; commit; put 5 red; commit; merge 0; feed red; term dog; join 2; "
                + "results = 1 3");
        sentences.test("-1 when there is no such result.",
            "result 0 -1 1 MIN MAX = -1",
            FOUR + "term red; find = 2; result 2 3 -1 12 MIN MAX = -1",
            "add 0 1 2 3 4 5 6 7 8 9 10 11; commit; term red; join 2; find = 12; result 11 = 11; result 12 13 -1 = -1");
        sentences.test("(A stop takes no results away.)",
            FOUR + "term red; find = 2; " + STOPPED + "results = 1 3; restart; results = 1 3",
            FOUR + "term red; find = 2; delete 1 3; fuse 2; commit = -9; size 0 = 2; results = 1 3; restart; "
                + "results = 1 3");
    }
}
