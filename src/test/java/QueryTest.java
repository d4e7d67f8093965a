/** Promises 10 to 13 and 15: term, phrase, join, find, result. */
public final class QueryTest {
    private static final Check check = new Check();

    public static void main(String[] args) {
        terms();
        phrases();
        phraseRefusals();
        joins();
        depth();
        finding();
        whenStopped();
        check.end();
    }

    private static PostingShelf shelfOf(String... texts) {
        PostingShelf shelf = new PostingShelf();
        for (int i = 0; i < texts.length; i++) {
            Check.put(shelf, i, texts[i]);
        }
        shelf.commit();
        return shelf;
    }

    private static void dueFind(PostingShelf shelf, String query, String want) {
        check.due("find() of " + query, shelf.find(), want.isEmpty() ? 0 : want.split(" ").length);
        check.dueResults(query, shelf, want);
        check.due("the stack behind " + query, shelf.size(5), 0);
    }

    private static void dueTerm(PostingShelf shelf, String word, String want) {
        Check.terms(shelf, word);
        dueFind(shelf, word, want);
    }

    private static void terms() {
        PostingShelf shelf = shelfOf("hopping the cats", "toed", "", "the a an and in of or to", "hop aed");
        for (long none : new long[] {0L, 27L, 32L, -1L, 1L << 60}) {
            check.due("term(" + none + ")", shelf.term(none), -1);
        }
        check.due("refused, size(5)", shelf.size(5), 0);
        dueTerm(shelf, "hop", "0 4");
        dueTerm(shelf, "hopped", "0 4");
        dueTerm(shelf, "cat", "0");
        dueTerm(shelf, "dog", "");
        for (String stop : "a an and in of or the to".split(" ")) {
            dueTerm(shelf, stop, "");
        }
        // Whether a word is a stop word is asked of the word, not of its stem.
        dueTerm(shelf, "toed", "1");
        dueTerm(shelf, "aed", "4");
        for (int i = 1; i <= 8; i++) {
            check.due("term " + i, shelf.term(i), i);
        }
        check.due("a ninth term", shelf.term(9L), -1);
        check.due("size(5)", shelf.size(5), 8);
    }

    private static void phrases() {
        PostingShelf shelf = shelfOf("red cat red dog", "red the dog", "dog red", "cats red dogs reds cat", "red dog");
        String[][] dues = {
            {"red dog", "0 3 4"}, {"red cat", "0 3"}, {"cat red", "0 3"}, {"dog red", "2 3"}, {"red cat red", "0"},
            {"red cat red dog", "0"}, {"cat red dog red cat", "3"}, {"red red", ""}, {"red the", ""}, {"the dog", ""},
            {"red the dog", ""}, {"the the", ""}, {"dog bird", ""}, {"cat red dog red cat red dog", ""},
            {"red dog red dog red dog red dog", ""},
        };
        for (String[] due : dues) {
            Check.terms(shelf, due[0]);
            check.due("phrase of " + due[0], shelf.phrase(due[0].split(" ").length), 1);
            dueFind(shelf, due[0], due[1]);
        }
        // Only the uppermost ones, the lowest of them first.
        Check.terms(shelf, "cat dog red cat");
        check.due("phrase(2)", shelf.phrase(2), 3);
        check.due("join(0)", shelf.join(0), 2);
        check.due("join(0)", shelf.join(0), 1);
        dueFind(shelf, "cat and dog and 'red cat'", "0 3");
        Check.terms(shelf, "dog red cat red");
        check.due("phrase(3)", shelf.phrase(3), 2);
        check.due("join(0)", shelf.join(0), 1);
        dueFind(shelf, "dog and 'red cat red'", "0");
        PostingShelf full = shelfOf("b c d e f g h i j k l m", "e f g h i j k m", "f g h i j k l");
        Check.terms(full, "f g h i j k l m");
        check.due("phrase(8)", full.phrase(8), 1);
        dueFind(full, "a phrase of eight at the end", "0");
        Check.terms(full, "b c");
        full.phrase(2);
        dueFind(full, "a phrase at the beginning", "0");
        Check.terms(full, "l m");
        full.phrase(2);
        dueFind(full, "a phrase at the last places", "0");
        Check.terms(full, "m n");
        full.phrase(2);
        dueFind(full, "a phrase over the end", "");
    }

    private static void phraseRefusals() {
        PostingShelf shelf = shelfOf("red dog");
        check.due("phrase(2) of none", shelf.phrase(2), -1);
        Check.terms(shelf, "red dog");
        for (int n : new int[] {1, 0, -1, 3, Integer.MIN_VALUE, Integer.MAX_VALUE}) {
            check.due("phrase(" + n + ")", shelf.phrase(n), -1);
        }
        check.due("refused, size(5)", shelf.size(5), 2);
        check.due("phrase(2)", shelf.phrase(2), 1);
        Check.terms(shelf, "red dog");
        check.due("a phrase in a phrase", shelf.phrase(3), -1);
        check.due("beside a phrase", shelf.phrase(2), 2);
        check.due("a phrase of phrases", shelf.phrase(2), -1);
        check.due("join(0)", shelf.join(0), 1);
        Check.terms(shelf, "red");
        check.due("a join in a phrase", shelf.phrase(2), -1);
        shelf.join(2);
        Check.terms(shelf, "red");
        check.due("a not in a phrase", shelf.phrase(2), -1);
        check.due("size(5)", shelf.size(5), 3);
        // What was refused left the stack as it was: 'red dog' and 'red dog', or neither red nor red.
        shelf.join(1);
        shelf.join(0);
        dueFind(shelf, "what was refused", "0");
    }

    private static void joins() {
        PostingShelf shelf = shelfOf("red", "dog", "red dog", "cat", "red cat", "");
        check.due("join(2) of none", shelf.join(2), -1);
        Check.terms(shelf, "red");
        check.due("join(0) of one", shelf.join(0), -1);
        check.due("join(1) of one", shelf.join(1), -1);
        for (int how : new int[] {3, -1, Integer.MIN_VALUE, Integer.MAX_VALUE}) {
            check.due("join(" + how + ")", shelf.join(how), -1);
        }
        Check.terms(shelf, "dog");
        check.due("join(3) of two", shelf.join(3), -1);
        check.due("join(-1) of two", shelf.join(-1), -1);
        check.due("join(0) of two", shelf.join(0), 1);
        dueFind(shelf, "red and dog", "2");
        Check.terms(shelf, "red dog");
        check.due("join(1) of two", shelf.join(1), 1);
        dueFind(shelf, "red or dog", "0 1 2 4");
        Check.terms(shelf, "red");
        check.due("join(2)", shelf.join(2), 1);
        dueFind(shelf, "not red", "1 3 5");
        Check.terms(shelf, "the");
        shelf.join(2);
        dueFind(shelf, "not the", "0 1 2 3 4 5");
        Check.terms(shelf, "cat red dog");
        check.due("not the uppermost", shelf.join(2), 3);
        check.due("both of the two uppermost", shelf.join(0), 2);
        check.due("either of the two uppermost", shelf.join(1), 1);
        dueFind(shelf, "cat or red and not dog", "0 3 4");
        Check.terms(shelf, "cat red dog");
        shelf.join(1);
        shelf.join(2);
        shelf.join(0);
        dueFind(shelf, "cat and neither red nor dog", "3");
        Check.terms(shelf, "red dog");
        shelf.phrase(2);
        shelf.join(2);
        Check.terms(shelf, "cat");
        shelf.join(2);
        shelf.join(0);
        dueFind(shelf, "not 'red dog' and not cat", "0 1 5");
        Check.terms(shelf, "red the dog the the the the the");
        for (int i = 7; i >= 2; i--) {
            check.due("either of eight", shelf.join(1), i);
        }
        check.due("either of eight would be 7 deep", shelf.join(1), -1);
    }

    private static void depth() {
        PostingShelf shelf = shelfOf("red dog", "dog", "red");
        Check.terms(shelf, "red");
        for (int i = 1; i <= 6; i++) {
            check.due("not, " + i + " deep", shelf.join(2), 1);
        }
        check.due("not, 7 deep", shelf.join(2), -1);
        Check.terms(shelf, "dog");
        check.due("both, 7 deep by the lower", shelf.join(0), -1);
        check.due("either, 7 deep by the lower", shelf.join(1), -1);
        check.due("not beside it", shelf.join(2), 2);
        check.due("both, 7 deep", shelf.join(0), -1);
        check.due("find() of two", shelf.find(), -3);
        Check.terms(shelf, "red dog");
        for (int i = 1; i <= 6; i++) {
            shelf.join(2);
        }
        check.due("both, 7 deep by the upper", shelf.join(0), -1);
        check.due("refused, size(5)", shelf.size(5), 2);
        shelf.find();
        // A phrase is 1 deep: five more go.
        Check.terms(shelf, "red dog");
        shelf.phrase(2);
        for (int i = 2; i <= 6; i++) {
            check.due("not over a phrase, " + i + " deep", shelf.join(2), 1);
        }
        check.due("not over a phrase, 7 deep", shelf.join(2), -1);
        dueFind(shelf, "five times not over a phrase", "1 2");
        // 5 and 4 deep make 6 deep; then nothing goes.
        Check.terms(shelf, "red");
        for (int i = 0; i < 5; i++) {
            shelf.join(2);
        }
        Check.terms(shelf, "dog");
        for (int i = 0; i < 4; i++) {
            shelf.join(2);
        }
        check.due("both, 6 deep", shelf.join(0), 1);
        check.due("not, 7 deep", shelf.join(2), -1);
        dueFind(shelf, "not red and dog", "1");
        fullTree();
    }

    /** All of 64 terms, 6 deep, need seven on the stack. */
    private static void fullTree() {
        PostingShelf shelf = shelfOf("red dog", "dog", "red");
        for (int i = 1; i <= 64; i++) {
            Check.terms(shelf, i == 64 ? "dog" : "red");
            for (int done = i; done % 2 == 0; done /= 2) {
                shelf.join(0);
            }
        }
        check.due("the tree, size(5)", shelf.size(5), 1);
        check.due("the tree, join(2)", shelf.join(2), -1);
        dueFind(shelf, "the tree", "0");
    }

    private static void finding() {
        PostingShelf shelf = new PostingShelf();
        Check.put(shelf, 9, "red");
        Check.put(shelf, 11, "red");
        shelf.commit();
        Check.put(shelf, 0, "red");
        Check.put(shelf, 10, "red dog");
        shelf.commit();
        dueTerm(shelf, "red", "0 9 10 11");
        check.due("result(-1)", shelf.result(-1), -1);
        check.due("result(4)", shelf.result(4), -1);
        check.due("result(12)", shelf.result(12), -1);
        check.due("result(min)", shelf.result(Integer.MIN_VALUE), -1);
        check.due("result(max)", shelf.result(Integer.MAX_VALUE), -1);
        check.due("weight(3)", shelf.weight(3), 0);
        check.due("weight(4)", shelf.weight(4), -1);
        // Results stay as they were when the documents change.
        shelf.delete(0);
        check.dueResults("before the commit", shelf, "0 9 10 11");
        dueTerm(shelf, "red", "0 9 10 11");
        shelf.commit();
        check.dueResults("behind the commit", shelf, "0 9 10 11");
        dueTerm(shelf, "red", "9 10 11");
        // A query on the stack is matched with what is live when it is found.
        Check.terms(shelf, "red");
        Check.put(shelf, 9, "dog");
        shelf.commit();
        dueFind(shelf, "red, put before a commit", "10 11");
        shelf.merge(0);
        check.due("rank(9) is refused", shelf.rank(9), -1);
        check.dueResults("refused", shelf, "10 11");
        check.due("find() of none", shelf.find(), -3);
        check.dueResults("malformed", shelf, "");
        dueTerm(shelf, "dog", "9 10");
        Check.terms(shelf, "red dog");
        check.due("find() of two", shelf.find(), -3);
        check.due("malformed, size(5)", shelf.size(5), 0);
        check.dueResults("malformed of two", shelf, "");
        check.due("malformed, result(0)", shelf.result(0), -1);
        for (int id = 0; id < 12; id++) {
            Check.put(shelf, id, "fish");
        }
        shelf.commit();
        dueTerm(shelf, "fish", "0 1 2 3 4 5 6 7 8 9 10 11");
        check.due("result(12) of twelve", shelf.result(12), -1);
    }

    private static void whenStopped() {
        PostingShelf shelf = shelfOf("red", "dog red");
        dueTerm(shelf, "red", "0 1");
        Check.terms(shelf, "red dog");
        shelf.delete(0);
        shelf.fuse(1);
        check.due("commit()", shelf.commit(), -9);
        check.due("stopped, size(5)", shelf.size(5), 0);
        check.due("stopped, term", shelf.term(1L), -9);
        check.due("stopped, term of none", shelf.term(0L), -9);
        check.due("stopped, phrase(2)", shelf.phrase(2), -9);
        check.due("stopped, join(0)", shelf.join(0), -9);
        check.due("stopped, join(5)", shelf.join(5), -9);
        check.due("stopped, find()", shelf.find(), -9);
        check.due("stopped, rank(1)", shelf.rank(1), -9);
        check.due("stopped, rank(0)", shelf.rank(0), -9);
        check.dueResults("stopped", shelf, "0 1");
        shelf.restart();
        check.dueResults("restarted", shelf, "0 1");
        dueTerm(shelf, "dog", "1");
    }
}
