/** Promise 2: stem. */
public final class StemTest {
    private static final String[] STEMS = {
        // one or two letters
        "a a", "s s", "y y", "as as", "ed ed", "ss ss", "by by", "yy yy",
        // step 1
        "caresses caress", "sses ss", "asses ass", "ponies poni", "ties ti", "ies i", "caress caress", "sss sss",
        "cats cat", "gas ga", "bes be", "yes ye", "buses buse",
        // step 2, eed
        "feed feed", "eed eed", "reed reed", "aeed aeed", "agreed agree", "succeed succee", "ayeed ayee",
        "byeed byeed",
        // step 2, ed and ing with and without a vowel before
        "plastered plaster", "bled bled", "motoring motor", "sing sing", "ing ing", "ying ying", "dying dy",
        "aed a", "ied i", "toed to", "aing a", "red red",
        // step 2, at, bl, iz
        "conflated conflate", "ated ate", "troubled trouble", "abling able", "bling bling", "sized size", "izing ize",
        // step 2, twice the same consonant
        "hopping hop", "tanned tan", "adding ad", "erred er", "falling fall", "hissing hiss", "fizzed fizz",
        "freeing free", "byying byi", "ayying ayi",
        // step 2, short
        "filing file", "hoped hope", "failing fail", "snowing snow", "boxing box", "fixing fix", "using us", "iced ic",
        "opened open", "oozed ooz", "cycling cycl", "gyming gyme",
        // step 3
        "happy happi", "sky sky", "say sai", "yyy yyi", "crying cry", "playing plai", "eyed ei", "syzygy syzygi",
        "yay yai", "bying by",
        // one step after the other
        "meetings meet", "agreeds agree", "hopings hope", "partys parti", "parties parti", "toys toi", "its it",
        "ings ing", "feeds feed", "dyings dy", "ays ai", "eys ei", "aeds a",
        // twelve letters
        "abcdefghijed abcdefghij", "trrrrrrrated trrrrrrrate", "zzzzzzzzzzzz zzzzzzzzzzzz",
        "aaaaaaaaasss aaaaaaaaasss", "bbbbbbbbabed bbbbbbbbabe",
        // stop words like any others
        "an an", "and and", "in in", "of of", "or or", "the the", "to to",
    };

    private static final long[] NO_WORDS = {
        0L, 27L, 28L, 31L, 32L, 64L, 1L | 1L << 10, 1L | 27L << 5, 1L << 59, -1L, 1L << 60, 1L << 63, Long.MAX_VALUE,
        Long.MIN_VALUE, Check.word("abcdefghijkl") | 1L << 60, Check.word("abcdefghijkl") | 1L << 63,
        Check.word("the") | 1L << 62, -5396L, Check.word("abcdefghijkl") | 31L << 55,
    };

    public static void main(String[] args) {
        Check check = new Check();
        PostingShelf shelf = new PostingShelf();
        checkAll(check, shelf);
        // It answers also when the machine has stopped.
        shelf.delete(0);
        shelf.fuse(1);
        shelf.commit();
        check.due("size(8)", shelf.size(8), 1);
        checkAll(check, shelf);
        check.end();
    }

    private static void checkAll(Check check, PostingShelf shelf) {
        for (String each : STEMS) {
            String[] pair = each.split(" ");
            String got = Check.letters(shelf.stem(Check.word(pair[0])));
            if (!got.equals(pair[1])) {
                System.out.println(pair[0] + " has the stem " + got + ", due is " + pair[1]);
            }
            check.due("stem of " + pair[0], shelf.stem(Check.word(pair[0])), Check.word(pair[1]));
        }
        for (long word : NO_WORDS) {
            check.due("stem(" + word + ")", shelf.stem(word), 0);
        }
    }
}
