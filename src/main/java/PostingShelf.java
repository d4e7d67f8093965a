import java.util.ArrayList;
import java.util.Arrays;

/** A search engine for small texts, as ../shared/DOC.md describes it. */
public final class PostingShelf {
    public static final int DOWN = -9;
    public static final int MALFORMED = -3;

    private static final int REFUSED = -1;
    private static final int NO_ROOM = -2;
    /** There is no such result, size or weight. */
    private static final int ABSENT = -1;

    private static final int IDS = 12;
    private static final int MOST_WORDS = 12;
    private static final int MOST_LETTERS = 12;
    private static final int MOST_SEGMENTS = 6;
    private static final int MOST_QUERIES = 8;
    private static final int MOST_DEEP = 6;
    private static final int MOST_BEST = 5;
    private static final int LONGEST_FUSE = 100;

    private static final int LETTER_BITS = 5;
    private static final int LETTER_MASK = 31;
    private static final int LAST_LETTER = 26;

    /** The term of a stop word; no stem is 0, since a stem has a letter. */
    private static final long NO_TERM = 0L;

    /** These are a, an, and, in, of, or, the, to. */
    private static final long[] STOP_WORDS = {1L, 449L, 4545L, 457L, 207L, 591L, 5396L, 500L};

    /** The kinds of a step of a query: the ways of join(), and a row of terms. */
    private static final int BOTH = 0;
    private static final int EITHER = 1;
    private static final int NOT = 2;
    private static final int ROW = 3;

    private final Stemmer stemmer = new Stemmer();
    private final long[] draft = new long[MOST_WORDS];
    private int draftWords = 0;
    private final Pending pending = new Pending();
    private final Shelf shelf = new Shelf();
    private final Machine machine = new Machine();
    private final QueryStack stack = new QueryStack();
    private final Ranking ranking = new Ranking();
    private final Results results = new Results();

    public PostingShelf() {
    }

    public long stem(long word) {
        return Stemmer.isWord(word) ? stemmer.stemOf(word) : 0L;
    }

    public int feed(long word) {
        if (machine.stopped) {
            return DOWN;
        }
        if (!Stemmer.isWord(word) || draftWords >= MOST_WORDS) {
            return REFUSED;
        }
        // Of a fed word only its term and its place are ever asked for.
        draft[draftWords] = stemmer.termOf(word);
        draftWords++;
        return draftWords;
    }

    public int add(int id) {
        if (machine.stopped) {
            return DOWN;
        }
        if (!isId(id)) {
            return REFUSED;
        }
        pending.putDocument(new Document(id, Arrays.copyOf(draft, draftWords)));
        draftWords = 0;
        return pending.idCount();
    }

    public int delete(int id) {
        if (machine.stopped) {
            return DOWN;
        }
        if (!isId(id)) {
            return REFUSED;
        }
        pending.putDeletion(id);
        return pending.idCount();
    }

    public int commit() {
        if (machine.stopped) {
            return DOWN;
        }
        if (pending.idCount() == 0) {
            return REFUSED;
        }
        if (!pending.documents.isEmpty() && shelf.segments.size() >= MOST_SEGMENTS) {
            return NO_ROOM;
        }
        int deletionBlocks = shelf.hasLiveAmong(pending.ids) ? 1 : 0;
        if (machine.writeBlocks(pending.documents.size() + deletionBlocks + 1)) {
            shelf.takeIn(pending);
            pending.clear();
        }
        return machine.stopped ? goDown() : shelf.live.size();
    }

    public int merge(int i) {
        if (machine.stopped) {
            return DOWN;
        }
        if (i < 0 || i >= shelf.segments.size() - 1) {
            return REFUSED;
        }
        Segment joined = shelf.joinedFrom(i);
        if (machine.writeBlocks(joined.documents.size() + 1)) {
            shelf.replaceTwo(i, joined);
        }
        return machine.stopped ? goDown() : shelf.segments.size();
    }

    public boolean fuse(int k) {
        if (machine.stopped || k < 1 || k > LONGEST_FUSE) {
            return false;
        }
        machine.blocksToStop = k;
        return true;
    }

    public boolean restart() {
        boolean wasStopped = machine.stopped;
        machine.stopped = false;
        return wasStopped;
    }

    public int term(long word) {
        if (machine.stopped) {
            return DOWN;
        }
        if (!Stemmer.isWord(word) || stack.height >= MOST_QUERIES) {
            return REFUSED;
        }
        return stack.pushTerm(stemmer.termOf(word));
    }

    public int phrase(int n) {
        if (machine.stopped) {
            return DOWN;
        }
        if (n < 2 || n > stack.height || !stack.areTerms(n)) {
            return REFUSED;
        }
        return stack.makePhrase(n);
    }

    public int join(int how) {
        if (machine.stopped) {
            return DOWN;
        }
        if (how < BOTH || how > NOT) {
            return REFUSED;
        }
        int parts = how == NOT ? 1 : 2;
        if (parts > stack.height || stack.deepest(parts) >= MOST_DEEP) {
            return REFUSED;
        }
        return stack.makeJoin(how, parts);
    }

    public int find() {
        if (machine.stopped) {
            return DOWN;
        }
        results.clear();
        boolean wellFormed = stack.height == 1;
        if (wellFormed) {
            collectMatches();
        }
        stack.clear();
        return wellFormed ? results.count : MALFORMED;
    }

    public int rank(int k) {
        if (machine.stopped) {
            return DOWN;
        }
        if (k < 1 || k > MOST_BEST) {
            return REFUSED;
        }
        results.clear();
        ranking.clear();
        boolean wellFormed = stack.height > 0 && stack.areTerms(stack.height);
        if (wellFormed) {
            ranking.weighBag(stack, shelf.live);
            ranking.chooseBest(k, shelf.live, results);
        }
        stack.clear();
        return wellFormed ? results.count : MALFORMED;
    }

    public int result(int i) {
        return results.has(i) ? results.ids[i] : ABSENT;
    }

    public int weight(int i) {
        return results.has(i) ? results.weights[i] : ABSENT;
    }

    public int weighed() {
        return ranking.weighedCount;
    }

    public int size(int what) {
        switch (what) {
            case 0: return shelf.live.size();
            case 1: return shelf.segments.size();
            case 2: return shelf.documentCount();
            case 3: return pending.idCount();
            case 4: return draftWords;
            case 5: return stack.height;
            case 6: return totalLength(shelf.live);
            case 7: return machine.blocksWritten;
            case 8: return machine.stopped ? 1 : 0;
            case 9: return shelf.entryCount();
            default: return ABSENT;
        }
    }

    private static boolean isId(int id) {
        return id >= 0 && id < IDS;
    }

    /** Rows of ids are kept as bits, the one of id 0 the lowest. */
    private static boolean isAmong(int id, int ids) {
        return (ids >> id & 1) == 1;
    }

    private static int totalLength(ArrayList<Document> documents) {
        int total = 0;
        for (int i = 0; i < documents.size(); i++) {
            total += documents.get(i).length();
        }
        return total;
    }

    private int goDown() {
        draftWords = 0;
        pending.clear();
        stack.clear();
        return DOWN;
    }

    private void collectMatches() {
        for (int i = 0; i < shelf.live.size(); i++) {
            Document document = shelf.live.get(i);
            if (stack.matches(document)) {
                results.insert(document.id, 0, IDS);
            }
        }
    }

    /** Brings words to their stems, in rows that every word uses again. */
    private static final class Stemmer {
        private final char[] letters = new char[MOST_LETTERS];
        private final boolean[] vowels = new boolean[MOST_LETTERS];
        private int length = 0;

        static boolean isWord(long word) {
            long rest = word;
            for (int i = 0; i < MOST_LETTERS && rest != 0; i++) {
                long letter = rest & LETTER_MASK;
                if (letter < 1 || letter > LAST_LETTER) {
                    return false;
                }
                rest >>>= LETTER_BITS;
            }
            return word != 0 && rest == 0;
        }

        static boolean isStopWord(long word) {
            for (int i = 0; i < STOP_WORDS.length; i++) {
                if (STOP_WORDS[i] == word) {
                    return true;
                }
            }
            return false;
        }

        long termOf(long word) {
            return isStopWord(word) ? NO_TERM : stemOf(word);
        }

        long stemOf(long word) {
            unpack(word);
            if (length > 2) {
                dropPlural();
                dropPastOrGerund();
                turnFinalY();
            }
            return packed();
        }

        private void unpack(long word) {
            length = 0;
            long rest = word;
            for (int i = 0; i < MOST_LETTERS && rest != 0; i++) {
                append((char) ('a' - 1 + (rest & LETTER_MASK)));
                rest >>>= LETTER_BITS;
            }
        }

        private long packed() {
            long word = 0;
            for (int i = length - 1; i >= 0; i--) {
                word = word << LETTER_BITS | (letters[i] - 'a' + 1);
            }
            return word;
        }

        private void append(char letter) {
            if (length >= MOST_LETTERS) {
                return;
            }
            boolean behindConsonant = length > 0 && !vowels[length - 1];
            letters[length] = letter;
            vowels[length] = "aeiou".indexOf(letter) >= 0 || letter == 'y' && behindConsonant;
            length++;
        }

        private void dropPlural() {
            if (endsIn("sses") || endsIn("ies")) {
                length -= 2;
            } else if (endsIn("s") && !endsIn("ss")) {
                length--;
            }
        }

        private void dropPastOrGerund() {
            if (endsIn("eed")) {
                if (measure(length - 3) > 0) {
                    length--;
                }
                return;
            }
            int ending = endsIn("ed") ? 2 : endsIn("ing") ? 3 : 0;
            if (ending > 0 && hasVowel(length - ending)) {
                length -= ending;
                mendEnd();
            }
        }

        private void mendEnd() {
            if (endsIn("at") || endsIn("bl") || endsIn("iz")) {
                append('e');
            } else if (endsInDouble()) {
                length--;
            } else if (measure(length) == 1 && endsShort()) {
                append('e');
            }
        }

        private void turnFinalY() {
            if (endsIn("y") && hasVowel(length - 1)) {
                length--;
                append('i');
            }
        }

        private boolean endsIn(String ending) {
            int start = length - ending.length();
            if (start < 0) {
                return false;
            }
            for (int i = 0; i < ending.length(); i++) {
                if (letters[start + i] != ending.charAt(i)) {
                    return false;
                }
            }
            return true;
        }

        /** Of two y side by side one is a vowel, so both letters are looked at. */
        private boolean endsInDouble() {
            if (length < 2 || vowels[length - 1] || vowels[length - 2]) {
                return false;
            }
            char last = letters[length - 1];
            return last == letters[length - 2] && "lsz".indexOf(last) < 0;
        }

        private boolean endsShort() {
            return length >= 3 && !vowels[length - 3] && vowels[length - 2] && !vowels[length - 1]
                && "wxy".indexOf(letters[length - 1]) < 0;
        }

        private int measure(int end) {
            int count = 0;
            for (int i = 0; i + 1 < end; i++) {
                if (vowels[i] && !vowels[i + 1]) {
                    count++;
                }
            }
            return count;
        }

        private boolean hasVowel(int end) {
            for (int i = 0; i < end; i++) {
                if (vowels[i]) {
                    return true;
                }
            }
            return false;
        }
    }

    /** A document never changes: the segments that hold it may share it. */
    private static final class Document {
        private final int id;
        private final long[] terms;

        /** The terms by their places, NO_TERM where a stop word stands. */
        Document(int id, long[] terms) {
            this.id = id;
            this.terms = terms;
        }

        int length() {
            int count = 0;
            for (int i = 0; i < terms.length; i++) {
                if (terms[i] != NO_TERM) {
                    count++;
                }
            }
            return count;
        }

        int timesOf(long sought) {
            int count = 0;
            for (int i = 0; i < terms.length; i++) {
                if (terms[i] == sought && sought != NO_TERM) {
                    count++;
                }
            }
            return count;
        }

        int differentTerms() {
            int count = 0;
            for (int i = 0; i < terms.length; i++) {
                if (terms[i] != NO_TERM && isFirst(i)) {
                    count++;
                }
            }
            return count;
        }

        private boolean isFirst(int place) {
            for (int i = 0; i < place; i++) {
                if (terms[i] == terms[place]) {
                    return false;
                }
            }
            return true;
        }

        boolean hasRow(long[] row) {
            for (int place = 0; place + row.length <= terms.length; place++) {
                if (hasRowAt(place, row)) {
                    return true;
                }
            }
            return false;
        }

        private boolean hasRowAt(int place, long[] row) {
            for (int i = 0; i < row.length; i++) {
                if (row[i] == NO_TERM || row[i] != terms[place + i]) {
                    return false;
                }
            }
            return true;
        }
    }

    /** What the next commit brings: some ids, and documents for some of these. */
    private static final class Pending {
        private final ArrayList<Document> documents = new ArrayList<>();
        private int ids = 0;

        int idCount() {
            return Integer.bitCount(ids);
        }

        void putDocument(Document document) {
            dropDocument(document.id);
            documents.add(document);
            ids |= 1 << document.id;
        }

        void putDeletion(int id) {
            dropDocument(id);
            ids |= 1 << id;
        }

        private void dropDocument(int id) {
            for (int i = documents.size() - 1; i >= 0; i--) {
                if (documents.get(i).id == id) {
                    documents.remove(i);
                }
            }
        }

        void clear() {
            documents.clear();
            ids = 0;
        }
    }

    /** No two documents of a segment have the same id, so a bit for each id tells which are deleted. */
    private static final class Segment {
        private final ArrayList<Document> documents = new ArrayList<>();
        private int deletedIds = 0;

        boolean isLive(int i) {
            return !isAmong(documents.get(i).id, deletedIds);
        }

        void copyLive(ArrayList<Document> target) {
            for (int i = 0; i < documents.size(); i++) {
                if (isLive(i)) {
                    target.add(documents.get(i));
                }
            }
        }

        int entryCount() {
            int count = 0;
            for (int i = 0; i < documents.size(); i++) {
                count += documents.get(i).differentTerms();
            }
            return count;
        }
    }

    /** The segments as the last manifest left them. */
    private static final class Shelf {
        private final ArrayList<Segment> segments = new ArrayList<>();
        /** The live documents of all segments, by ascending ids. */
        private final ArrayList<Document> live = new ArrayList<>();

        boolean hasLiveAmong(int ids) {
            for (int i = 0; i < live.size(); i++) {
                if (isAmong(live.get(i).id, ids)) {
                    return true;
                }
            }
            return false;
        }

        void takeIn(Pending pending) {
            markDeleted(pending.ids);
            if (!pending.documents.isEmpty()) {
                appendSegment(pending.documents);
            }
        }

        private void markDeleted(int ids) {
            for (int i = 0; i < segments.size(); i++) {
                segments.get(i).deletedIds |= ids;
            }
            for (int i = live.size() - 1; i >= 0; i--) {
                if (isAmong(live.get(i).id, ids)) {
                    live.remove(i);
                }
            }
        }

        /** Copies the row, since that of what is pending is used again. */
        private void appendSegment(ArrayList<Document> documents) {
            Segment segment = new Segment();
            for (int i = 0; i < documents.size(); i++) {
                segment.documents.add(documents.get(i));
                insertLive(documents.get(i));
            }
            segments.add(segment);
        }

        private void insertLive(Document document) {
            int at = 0;
            while (at < live.size() && live.get(at).id < document.id) {
                at++;
            }
            live.add(at, document);
        }

        Segment joinedFrom(int first) {
            Segment joined = new Segment();
            for (int i = first; i < segments.size() && i <= first + 1; i++) {
                segments.get(i).copyLive(joined.documents);
            }
            return joined;
        }

        void replaceTwo(int first, Segment joined) {
            segments.remove(first + 1);
            if (joined.documents.isEmpty()) {
                segments.remove(first);
            } else {
                segments.set(first, joined);
            }
        }

        int documentCount() {
            int count = 0;
            for (int i = 0; i < segments.size(); i++) {
                count += segments.get(i).documents.size();
            }
            return count;
        }

        int entryCount() {
            int count = 0;
            for (int i = 0; i < segments.size(); i++) {
                count += segments.get(i).entryCount();
            }
            return count;
        }
    }

    /** Writes blocks till its fuse stops it. */
    private static final class Machine {
        private int blocksWritten = 0;
        /** 0 when no fuse is set. */
        private int blocksToStop = 0;
        private boolean stopped = false;

        /** Whether the last of the blocks was written; the machine may have stopped right behind it. */
        boolean writeBlocks(int count) {
            for (int i = 0; i < count; i++) {
                if (stopped) {
                    return false;
                }
                writeBlock();
            }
            return true;
        }

        private void writeBlock() {
            blocksWritten++;
            if (blocksToStop > 0) {
                blocksToStop--;
                stopped = blocksToStop == 0;
            }
        }
    }

    /** One step of the queries on the stack: a row of terms, or a join of what the steps before it left. */
    private static final class Step {
        private final int kind;
        private final long[] terms;

        Step(int kind, long[] terms) {
            this.kind = kind;
            this.terms = terms;
        }
    }

    /** All queries on the stack are one list of steps, parts before their joins: so nothing calls itself. */
    private static final class QueryStack {
        private final ArrayList<Step> steps = new ArrayList<>();
        private final int[] depths = new int[MOST_QUERIES];
        private int height = 0;

        void clear() {
            steps.clear();
            height = 0;
        }

        /** Only a term is 0 deep. */
        boolean areTerms(int parts) {
            return deepest(parts) == 0;
        }

        int deepest(int parts) {
            int deepest = 0;
            for (int i = Math.max(0, height - parts); i < height; i++) {
                deepest = Math.max(deepest, depths[i]);
            }
            return deepest;
        }

        /** As long as the stack has terms alone, each of them is one step. */
        long termAt(int i) {
            return i < steps.size() ? firstTerm(steps.get(i)) : NO_TERM;
        }

        private long firstTerm(Step step) {
            return step.terms.length > 0 ? step.terms[0] : NO_TERM;
        }

        int pushTerm(long sought) {
            long[] terms = {sought};
            return push(new Step(ROW, terms), 0, 0);
        }

        int makePhrase(int parts) {
            long[] terms = new long[parts];
            for (int i = parts - 1; i >= 0 && !steps.isEmpty(); i--) {
                terms[i] = firstTerm(steps.remove(steps.size() - 1));
            }
            return push(new Step(ROW, terms), parts, 1);
        }

        int makeJoin(int how, int parts) {
            return push(new Step(how, new long[0]), parts, deepest(parts) + 1);
        }

        private int push(Step step, int parts, int depth) {
            int at = height - parts;
            if (at < 0 || at >= MOST_QUERIES) {
                return REFUSED;
            }
            steps.add(step);
            depths[at] = depth;
            height = at + 1;
            return height;
        }

        boolean matches(Document document) {
            int answers = 0;
            for (int i = 0; i < steps.size(); i++) {
                answers = answersBehind(steps.get(i), answers, document);
            }
            return (answers & 1) == 1;
        }

        /** The answers of the steps are a stack of bits, the uppermost in the lowest bit. */
        private static int answersBehind(Step step, int answers, Document document) {
            switch (step.kind) {
                case BOTH: return answers >> 1 & (answers | ~1);
                case EITHER: return answers >> 1 | answers & 1;
                case NOT: return answers ^ 1;
                default: return answers << 1 | (document.hasRow(step.terms) ? 1 : 0);
            }
        }
    }

    /** Weighs the live documents for a bag, in rows that every bag uses again. */
    private static final class Ranking {
        /** By term of the bag and live document; ABSENT where the document has not the term. */
        private final int[][] weights = new int[MOST_QUERIES][IDS];
        private final int[] bounds = new int[MOST_QUERIES];
        private int termCount = 0;
        private int weighedCount = 0;

        void clear() {
            weighedCount = 0;
        }

        void weighBag(QueryStack bag, ArrayList<Document> live) {
            int lengths = totalLength(live);
            termCount = Math.min(bag.height, MOST_QUERIES);
            for (int i = 0; i < termCount; i++) {
                weighTerm(i, bag.termAt(i), live, lengths);
            }
        }

        private void weighTerm(int at, long sought, ArrayList<Document> live, int lengths) {
            int rarity = rarity(live.size(), holders(sought, live));
            bounds[at] = 0;
            for (int i = 0; i < live.size() && i < IDS; i++) {
                Document document = live.get(i);
                int times = document.timesOf(sought);
                int share = lengths > 0 ? 900 * document.length() * live.size() / lengths : 0;
                weights[at][i] = times > 0 ? rarity * times * 2200 / (1000 * times + 300 + share) : ABSENT;
                bounds[at] = Math.max(bounds[at], weights[at][i]);
            }
        }

        private static int holders(long sought, ArrayList<Document> live) {
            int count = 0;
            for (int i = 0; i < live.size(); i++) {
                if (live.get(i).timesOf(sought) > 0) {
                    count++;
                }
            }
            return count;
        }

        /** The document's I: 16 times a logarithm to the base 2, straight between the powers. */
        private static int rarity(int documents, int holders) {
            if (holders <= 0) {
                return 0;
            }
            int x = (documents + 1) * 256 / holders;
            int e = 0;
            while (e < 30 && x >> e + 1 > 0) {
                e++;
            }
            return 16 * e + (x * 16 >> e) - 16;
        }

        /**
         * A document that is not weighed cannot be among the best: it weighs no more than its bounds,
         * and of equal weights the smaller id, gone through before, is the better.
         */
        void chooseBest(int k, ArrayList<Document> live, Results best) {
            for (int i = 0; i < live.size() && i < IDS; i++) {
                if (hasTermOfBag(i) && (weighedCount < k || boundOf(i) > best.leastWeight())) {
                    weighedCount++;
                    best.insert(live.get(i).id, weightOf(i), k);
                }
            }
        }

        private boolean hasTermOfBag(int document) {
            for (int i = 0; i < termCount; i++) {
                if (weights[i][document] != ABSENT) {
                    return true;
                }
            }
            return false;
        }

        private int weightOf(int document) {
            int sum = 0;
            for (int i = 0; i < termCount; i++) {
                sum += Math.max(0, weights[i][document]);
            }
            return sum;
        }

        private int boundOf(int document) {
            int sum = 0;
            for (int i = 0; i < termCount; i++) {
                sum += weights[i][document] != ABSENT ? bounds[i] : 0;
            }
            return sum;
        }
    }

    /** Results of the latest query, by falling weights. */
    private static final class Results {
        private final int[] ids = new int[IDS];
        private final int[] weights = new int[IDS];
        private int count = 0;

        void clear() {
            count = 0;
        }

        boolean has(int i) {
            return i >= 0 && i < count;
        }

        int leastWeight() {
            return count > 0 ? weights[count - 1] : 0;
        }

        /** Puts a document behind those of the same weight, and keeps the first ones alone. */
        void insert(int id, int itsWeight, int most) {
            int at = count;
            while (at > 0 && weights[at - 1] < itsWeight) {
                at--;
            }
            if (at >= most || at >= IDS) {
                return;
            }
            count = Math.min(count + 1, Math.min(most, IDS));
            for (int i = count - 1; i > at; i--) {
                ids[i] = ids[i - 1];
                weights[i] = weights[i - 1];
            }
            ids[at] = id;
            weights[at] = itsWeight;
        }
    }
}
