import java.util.StringJoiner;

/** What the document says under WORDS and STEM and in promise 2, sentence by sentence. */
public final class WordSentencesTest {
    private static final Sentences sentences = new Sentences();
    private static final String TWELVE = "abcdefghijkl";
    /** A stopped machine, for calls that answer then too. */
    private static final String STOPPED = "delete 0; fuse 1; commit = -9; size 8 = 1; ";

    public static void main(String[] args) {
        words();
        stopWords();
        vowelsAndMeasure();
        firstStep();
        secondStep();
        secondStepMended();
        thirdStep();
        promise2();
        sentences.end();
    }

    /** A run of stem() for pairs of a word and its stem. */
    private static String stems(String pairs) {
        StringJoiner run = new StringJoiner("; ");
        for (String pair : pairs.split(", ")) {
            String[] both = pair.split(" ");
            run.add("stem " + both[0] + " = " + both[1]);
        }
        return run.toString();
    }

    /** None of these is a word, for any of the three calls that take one. */
    private static String none(long... longs) {
        StringBuilder run = new StringBuilder();
        for (long each : longs) {
            run.append("stem " + each + " = 0; feed " + each + " = -1; term " + each + " = -1; ");
        }
        return run + "size 4 5 = 0";
    }

    /** Each of these is a word, for any of the three calls that take one. */
    private static String some(String... words) {
        StringBuilder run = new StringBuilder();
        for (String each : words) {
            run.append("stem " + each + " = " + each + "; feed " + each + " = 1; term " + each + " = 1; add 0; find; ");
        }
        return run.toString();
    }

    private static long twelve() {
        return Check.word(TWELVE);
    }

    private static void words() {
        sentences.under("WORDS");
        sentences.test("A word has 1 to 12 letters a .. z;",
            none(0L),
            some("b", "z", TWELVE, "zzzzzzzzzzzz", "bcdfghjklmn"),
            // a thirteenth letter, of which the first bits have room
            none(twelve() | 1L << 60, twelve() | 15L << 60, Check.word("b") | 2L << 60));
        sentences.test("as a long it has five bits for each letter, 1 for a up to 26 for z,",
            "stem 1 26 = 1 26; stem cat = 20515; stem 20515 = cat",
            none(27L, 28L, 29L, 30L, 31L),
            none(2L | 27L << 5, 2L | 31L << 5, 31L | 2L << 5, 27L | 2L << 5),
            none(twelve() | 31L << 55, twelve() & ~(31L << 55) | 27L << 55, twelve() & ~(31L << 55) | 26L << 55 | 31L));
        sentences.test("the first letter in the lowest bits,",
            "feed 20515; add 0; commit; holds cat = 0; holds tac =",
            none(32L, 2L << 5, 2L << 55, 2L | 2L << 10, 2L | 2L << 55, twelve() & ~31L, twelve() & ~(31L << 30)));
        sentences.test("and no other bits set.",
            none(1L << 60, 1L << 61, 1L << 62, 1L << 63, -1L, Long.MIN_VALUE, Long.MAX_VALUE),
            none(2L | 1L << 60, 2L | 1L << 61, 2L | 1L << 62, 2L | 1L << 63, -20515L),
            none(twelve() | 1L << 61, twelve() | 1L << 62, twelve() | 1L << 63));
    }

    private static void stopWords() {
        for (String stop : "a an and in of or the to".split(" ")) {
            sentences.test("STOP WORDS are a, an, and, in, of, or, the, to.",
                "put 0 " + stop + "; commit = 1; size 6 9 = 0; holds " + stop + " =");
        }
        sentences.test("STOP WORDS are a, an, and, in, of, or, the, to.",
            "put 0 b i at ant as on if it then too ta ni; commit = 1; size 6 = 12; holds at = 0; holds ta = 0",
            // The words are meant, not their stems: these have the stems to, a, and, the, in.
            "put 0 toed aed ands thes ins; commit = 1; size 6 = 5; holds tos = 0; holds to =; "
                + "holds aing = 0; holds a =");
    }

    private static void vowelsAndMeasure() {
        sentences.under("STEM");
        for (String vowel : "a e i o u".split(" ")) {
            sentences.test("A letter of a word is a VOWEL if it is a, e, i, o or u,",
                stems("zz" + vowel + "rring zz" + vowel + "r, zz" + vowel + "ry zz" + vowel + "ri"));
        }
        for (char letter : "bcdfghjklmnpqrstvwxz".toCharArray()) {
            sentences.test("the others are consonants.",
                stems("zz" + letter + "ing zz" + letter + "ing, " + letter + "ed " + letter + "ed, " + letter + "zy "
                    + letter + "zy"));
        }
        sentences.test("or a y whose letter before it is there",
            stems("ying ying, yed yed, yzing yzing, yeed yeed, yyed yy, yying yy"));
        sentences.test("and is no vowel;",
            stems("byeed byeed, ayeed ayee, byyeed byyee, yyeed yyeed, yyyeed yyyee, yyyyeed yyyyee, gyming gyme, "
                + "aying ai, bying by"));
        sentences.test("how many vowels among them have a consonant directly behind them (also among them).",
            stems("aeed aeed, aaeed aaeed, baeed baeed, abeed abee, abaeed abaee, zzeed zzeed, eed eed"),
            // 1 and 2
            stems("hoped hope, opened open, anoping anop, stroked stroke"));
        sentences.test("A word of one or two letters is its own stem.",
            stems("a a, b b, s s, y y, z z, as as, is is, bs bs, ss ss, ed ed, by by, ay ay, ey ey, yy yy, oy oy"),
            // three letters are looked at, and so is what is left with two
            stems("ass ass, abs ab, bbs bb, aay aai, ays ai, eys ei, bys by"));
    }

    private static void firstStep() {
        sentences.test("When it ends in sses, the last two letters go;",
            stems("sses ss, asses ass, caresses caress, bssses bsss, bses bse, uses use"));
        sentences.test("else when in ies, the last two letters go;",
            stems("ies i, ties ti, ponies poni, iies ii, bes be, aes ae"));
        sentences.test("else when in ss, nothing;",
            stems("sss sss, bss bss, caress caress, iess iess"));
        sentences.test("else when in s, that goes.",
            stems("cats cat, gas ga, bcs bc, cat cat, sat sat, yes ye, catss catss"));
    }

    private static void secondStep() {
        sentences.test("When it ends in eed: the last letter goes if the measure of what stands before the eed is "
            + "above 0",
            stems("eed eed, feed feed, aeed aeed, freed freed, obeed obee, agreed agree, ababeed ababee, "
                + "eeeed eeeed, ebeed ebee"));
        sentences.test("(and that is all of this step for it).",
            // else the ed would go, which has a vowel before it
            stems("feed feed, steed steed, aeed aeed, agreed agree"));
        sentences.test("Else, when it ends in ed or in ing, and there is a vowel before that: this ending goes,",
            stems("bed bed, bled bled, sing sing, bring bring, ing ing, along along, amang amang, aid aid"),
            stems("aed a, aing a, bied bi, seeing see, plastered plaster, motoring motor, inging ing"),
            // only one of them goes
            stems("edinging eding, ededed eded, ingeding inged, feeding feed"));
    }

    private static void secondStepMended() {
        sentences.test("when it ends in at, bl or iz, an e comes behind;",
            stems("ated ate, ating ate, conflated conflate, abled able, troubling trouble, ized ize, sizing size, "
                + "eblating eblate, eating eate, bated bate, batted bat, ettling ettl"));
        sentences.test("else, when its last two letters are the same consonant, and not l, s or z, the last one goes;",
            stems("ebbed eb, hopping hop, tanned tan, fitting fit, rayyed rayi, byying byi"),
            stems("falling fall, elled ell, hissing hiss, essed ess, fizzed fizz, ezzing ezz"),
            // two vowels, and two different consonants
            stems("freeing free, booed boo, aaing aa, ended end, asking ask"),
            // what is left is not looked at once more
            stems("hopping hop, ebbbed ebb, fixxing fix, attated attate, abbling abble"));
        sentences.test("else, when its measure is 1, and it ends in a consonant, a vowel and a consonant that is not "
            + "w, x or y, an e comes behind.",
            stems("filing file, hoped hope, rising rise, gazed gaze, gyming gyme, yowled yowl, yoking yoke"),
            stems("snowing snow, boxing box, fixed fix, playing plai, sawed saw"),
            // no consonant before the vowel, two vowels, two consonants
            stems("using us, iced ic, oozing ooz, failing fail, aided aid, asked ask, boing bo, haed ha, "
                + "iglooed igloo"),
            stems("opened open, anoping anop, visited visit, ofed of"));
    }

    private static void thirdStep() {
        sentences.test("When it ends in y and there is a vowel before that, the y becomes i.",
            stems("happy happi, say sai, aby abi, yyy yyi, sky sky, zzy zzy, yzy yzy, bby bby, syzygy syzygi, "
                + "yay yai, boyz boyz, yes ye"));
        sentences.test("(The letters are looked at anew in each step, as they are by then;",
            stems("partys parti, skys sky, feeds feed, agreeds agree, hopings hope, hopeds hope, sings sing, "
                + "playing plai, crying cry, paying pai, tyings ty, bossesed bosses, abieses abiese, "
                + "tattyings tatti"));
        sentences.test("of part of a word each as it is in the word.)",
            stems("ayeed ayee, byeed byeed, ayed ai, eying ei, dyed dy"));
        sentences.test("A word has 1 to 12 letters",
            stems("abcdefghijed abcdefghij, bbbbbbbbabed bbbbbbbbabe, bbbbbbabbing bbbbbbab, "
                + "bbbbbbbbsses bbbbbbbbss, bbbbbbbbaeed bbbbbbbbaeed, bbbbbbbabeed bbbbbbbabee, "
                + "bbbbbbbbbbay bbbbbbbbbbai, bbbbbbbbated bbbbbbbbate, bbbbbbbbbbbs bbbbbbbbbbb"));
    }

    private static void promise2() {
        sentences.under("Promise 2");
        sentences.test("The stem of a word, as a long, a stop word's like any other's;",
            stems("a a, an an, and and, in in, of of, or or, the the, to to"));
        sentences.test("0 when word is none.",
            "stem 0 27 32 -1 1152921504606846976 -9223372036854775808 9223372036854775807 = 0");
        sentences.test("(It answers also when the machine has stopped.)",
            STOPPED + stems("cats cat, the the, hopping hop") + "; stem 0 27 -1 = 0; restart = true; "
                + "stem cats = cat");
    }
}
