/** Counts the answers that are not as due, and makes words of texts. */
final class Check {
    private int calls = 0;
    private int wrong = 0;

    void due(String call, long got, long want) {
        calls++;
        if (got != want) {
            wrong++;
            System.out.println(call + " answered " + got + ", due is " + want);
        }
    }

    void due(String call, boolean got, boolean want) {
        due(call, got ? 1L : 0L, want ? 1L : 0L);
    }

    /** Ends the test, with exit code 1 if an answer was wrong. */
    void end() {
        System.out.println(wrong == 0 ? calls + " answers as due" : wrong + " of " + calls + " answers not as due");
        if (wrong != 0) {
            System.exit(1);
        }
    }

    static long word(String letters) {
        long word = 0;
        for (int i = letters.length() - 1; i >= 0; i--) {
            word = word * 32 + (letters.charAt(i) - 'a' + 1);
        }
        return word;
    }

    static String letters(long word) {
        StringBuilder letters = new StringBuilder();
        for (long rest = word; rest != 0; rest >>>= 5) {
            letters.append((char) ('a' - 1 + (rest & 31)));
        }
        return letters.toString();
    }

    /** Feeds the words of a text, parted by spaces, and adds them as a document. */
    static int put(PostingShelf shelf, int id, String text) {
        feed(shelf, text);
        return shelf.add(id);
    }

    static void feed(PostingShelf shelf, String text) {
        for (String each : text.split(" ")) {
            if (!each.isEmpty()) {
                shelf.feed(word(each));
            }
        }
    }

    /** Puts the terms of a text's words onto the stack. */
    static void terms(PostingShelf shelf, String text) {
        for (String each : text.split(" ")) {
            shelf.term(word(each));
        }
    }

    /** The results as a text: id, or id:weight where the weight is not 0. */
    static String results(PostingShelf shelf) {
        StringBuilder row = new StringBuilder();
        for (int i = 0; i < 14 && shelf.result(i) != -1; i++) {
            row.append(i == 0 ? "" : " ").append(shelf.result(i));
            if (shelf.weight(i) != 0) {
                row.append(':').append(shelf.weight(i));
            }
        }
        return row.toString();
    }

    void dueResults(String call, PostingShelf shelf, String want) {
        calls++;
        String got = results(shelf);
        if (!got.equals(want)) {
            wrong++;
            System.out.println(call + " has the results '" + got + "', due is '" + want + "'");
        }
    }

    /** Checks size(0), size(1), .. against a row of sizes. */
    void dueSizes(String when, PostingShelf shelf, int... want) {
        for (int i = 0; i < want.length; i++) {
            due(when + ", size(" + i + ")", shelf.size(i), want[i]);
        }
    }
}
