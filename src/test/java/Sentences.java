/** The tests of sentences of the document, each by runs of its own; an answer not as due is told with its sentence. */
final class Sentences {
    private final Check check = new Check();
    private String place = "";
    private int count = 0;

    /** The heading or the word in capitals under which the next sentences stand. */
    void under(String heading) {
        place = heading;
    }

    /** The sentence, or the part of one, as in the document, and runs that fail if it is broken. */
    void test(String sentence, String... runs) {
        String title = title(sentence);
        for (String run : runs) {
            Run.play(check, title, run);
        }
    }

    /** For a call that is refused: what comes before it, the call, and later calls that tell what it changed. */
    void changesNothing(String sentence, String before, String refused, String... laters) {
        Run.changesNothing(check, title(sentence), before, refused, laters);
    }

    private String title(String sentence) {
        count++;
        return "[" + place + ": " + sentence + "]";
    }

    void end() {
        System.out.println(count + " sentences");
        check.end();
    }
}
