/** Texts held against older ones. What each call answers is told by the document, promise by promise. */
public final class BorrowedWords {
    public static final int NONE = -1, UNKNOWN = -1001, OUTSIDE = -1002, NOT = -1003, FULL = -1004;

    private static final int MOST_TEXTS = 10, MOST_WORDS = 60, MOST_MARKS = 30;
    private static final int MOST_RULES = 8, MOST_BYTES = 120, MOST_CLAUSES = 8, MOST_FIGURES = 3;
    private static final int LAST_WRITER = 9, LAST_DAY = 999, LAST_WORD = 200, LONGEST_ROW = 5, MOST_SLIPS = 3;

    private static final int LEAST = 0, SLIPS = 1, MEAN = 2, COMMON = 3, FREE = 4, LIGHT = 5, HEAVY = 6;
    /** How many clauses set something; the one kind behind them strikes a rule. */
    private static final int SETTINGS = 7, STRIKE = 7;
    private static final int[] AT_FIRST = {4, 0, 0, 1, 900, 10, 50};
    private static final int[] LOWEST = {2, 0, 0, 0, 0, 0, 0};
    private static final int[] HIGHEST = {20, 3, 1, 1, 999, 100, 100};

    private static final int NO_FAULT = 0, MISPLACED = 1, BAD_NUMBER = 2, NO_SUCH_RULE = 3, NINTH_CLAUSE = 4;
    private static final int RIGHT = 0, OPEN = 1, WRONG = 2;
    private static final int VERDICT_OWN = 0, VERDICT_CITED = 1, VERDICT_LIGHT = 2, VERDICT_MIXED = 3, VERDICT_HEAVY = 4;

    private final Shelf shelf;
    private final Lexicon lexicon;
    private final Marks marks;
    private final RuleReader reader;
    private final RuleBook book;
    private final Runs runs;
    private final Explanation explanation;
    private final Ways ways;
    private final RowTable rowTable;
    private final Sentences sentences;

    public BorrowedWords() {
        shelf = new Shelf();
        lexicon = new Lexicon();
        marks = new Marks(shelf);
        reader = new RuleReader();
        book = new RuleBook();
        runs = new Runs(shelf, lexicon, book);
        explanation = new Explanation(runs);
        ways = new Ways(shelf, runs, explanation);
        rowTable = new RowTable(shelf);
        sentences = new Sentences();
    }

    // ---- texts

    public int text(int writer, int day) {
        if (writer < 0 || writer > LAST_WRITER || !isDay(day)) return OUTSIDE;
        if (shelf.size >= MOST_TEXTS) return FULL;
        forget();
        return shelf.open(writer, day);
    }

    public int word(int x, int w) {
        if (!shelf.has(x)) return UNKNOWN;
        if (!isWord(w)) return OUTSIDE;
        Text text = shelf.texts[x];
        if (!text.hasRoomFor(1)) return FULL;
        forget();
        text.append(w);
        return text.size;
    }

    public int stop(int x) {
        if (!shelf.has(x)) return UNKNOWN;
        Text text = shelf.texts[x];
        if (text.size == 0 || text.endsWithStop()) return NOT;
        text.appendStop();
        return Long.bitCount(text.stops);
    }

    public int copy(int x, int y, int i, int j) {
        if (!shelf.has(x) || !shelf.has(y)) return UNKNOWN;
        Text from = shelf.texts[y];
        if (!from.spans(i, j)) return OUTSIDE;
        Text to = shelf.texts[x];
        if (!to.hasRoomFor(j - i + 1)) return FULL;
        forget();
        for (int place = i; place <= j; place++) {
            to.append(from.words[place]);
            if (from.stopsBehind(place)) to.appendStop();
        }
        return to.size;
    }

    public int about(int x, int what) {
        if (!shelf.has(x)) return UNKNOWN;
        Text text = shelf.texts[x];
        switch (what) {
            case 0: return text.writer;
            case 1: return text.day;
            case 2: return text.size;
            case 3: return text.sentenceCount();
            case 4: return marks.howMany(x, RIGHT);
            case 5: return marks.howMany(x, OPEN);
            case 6: return marks.howMany(x, WRONG);
            default: return OUTSIDE;
        }
    }

    public int at(int x, int i) {
        if (!shelf.has(x)) return UNKNOWN;
        Text text = shelf.texts[x];
        return text.hasPlace(i) ? text.words[i] : NONE;
    }

    public int same(int v, int w) {
        if (!isWord(v) || !isWord(w)) return OUTSIDE;
        if (lexicon.meaning[v] == lexicon.meaning[w]) return NOT;
        forget();
        return lexicon.join(v, w);
    }

    public int common(int w, boolean is) {
        if (!isWord(w)) return OUTSIDE;
        int was = lexicon.isCommon[w] ? 1 : 0;
        forget();
        lexicon.isCommon[w] = is;
        return was;
    }

    public int mark(int x, int i, int j, int y) {
        if (!shelf.has(x) || y != NONE && !shelf.has(y)) return UNKNOWN;
        if (!shelf.texts[x].spans(i, j) || y == x) return OUTSIDE;
        if (marks.size >= MOST_MARKS) return FULL;
        return marks.add(x, i, j, y);
    }

    public int stands(int m) {
        return marks.has(m) ? marks.standing(m) : UNKNOWN;
    }

    public int count(int what) {
        switch (what) {
            case 0: return shelf.size;
            case 1: return shelf.wordCount();
            case 2: return marks.size;
            case 3: return book.size;
            case 4: return reader.length;
            case 5: return lexicon.countOfShared();
            case 6: return lexicon.countOfCommon();
            default: return OUTSIDE;
        }
    }

    // ---- rules

    public int feed(int n, long bytes) {
        if (n < 1 || n > 8) return OUTSIDE;
        if (reader.length + n > MOST_BYTES) return FULL;
        for (int left = n - 1; left >= 0; left--) reader.append((int) (bytes >>> (8 * left) & 255L));
        return reader.length;
    }

    public int rule(int day) {
        if (!isDay(day)) return OUTSIDE;
        if (book.size >= MOST_RULES) return FULL;
        int wrong = reader.read(book.size);
        if (wrong != NO_FAULT) return -10 - wrong;
        forget();
        return book.add(day, reader.told, reader.struck);
    }

    public int fault() {
        return reader.faultPlace;
    }

    public int force(int what, int day) {
        if (what < 0 || what >= SETTINGS || !isDay(day)) return OUTSIDE;
        return book.holding(what, day);
    }

    // ---- what is taken

    public int sources(int x, int k) {
        int refusal = refusalOfLook(x, k);
        return refusal != 0 ? refusal : runs.sourceSet(x, k);
    }

    public int reach(int x, int k, int i, int what) {
        int refusal = refusalOfLook(x, k);
        if (refusal != 0) return refusal;
        if (!shelf.texts[x].hasPlace(i) || what < 0 || what > 2) return OUTSIDE;
        int set = sourcesLookedAt(x, k);
        int n = runs.longestAt(i, set);
        if (what == 0) return n;
        if (n == 0) return NONE;
        int source = runs.firstSource(i, n, set);
        return what == 1 ? source : runs.leastPlace(source, i, n);
    }

    public int piece(int x, int k, int p, int what) {
        int refusal = refusalOfLook(x, k);
        if (refusal != 0) return refusal;
        // Where the pieces are counted, what says nothing, so no number of it is out of bounds.
        if (p != NONE && (what < 0 || what > 3)) return OUTSIDE;
        int set = sourcesLookedAt(x, k);
        explanation.explain(set);
        if (p == NONE) return explanation.pieces;
        if (p < 0 || p >= explanation.pieces) return NONE;
        int i = explanation.starts[p];
        int n = explanation.sizes[p];
        if (what == 0) return i;
        if (what == 1) return n;
        int source = runs.firstSource(i, n, set);
        return what == 2 ? source : runs.leastPlace(source, i, n);
    }

    public int judged(int x, int k, int what) {
        int refusal = refusalOfLook(x, k);
        if (refusal != 0) return refusal;
        if (what < 0 || what > 3) return OUTSIDE;
        explanation.explain(sourcesLookedAt(x, k));
        switch (what) {
            case 0: return takenCount();
            case 1: return borrowedCount(x);
            case 2: return shareOf(x, borrowedCount(x));
            default: return verdictOn(x);
        }
    }

    public int fewest(int x, int k) {
        int refusal = refusalOfLook(x, k);
        return refusal != 0 ? refusal : explanation.smallestSet(sourcesLookedAt(x, k));
    }

    public int hangs(int x, int k) {
        int refusal = refusalOfLook(x, k);
        if (refusal != 0) return refusal;
        int set = sourcesLookedAt(x, k);
        explanation.explain(set);
        int verdict = verdictOn(x);
        int decisive = 0;
        for (int y = 0; y < shelf.size; y++) {
            if ((set >>> y & 1) != 0) {
                explanation.explain(set & ~(1 << y));
                if (verdictOn(x) != verdict) decisive |= 1 << y;
            }
        }
        return decisive;
    }

    // ---- who had it first

    public int first(int x, int i, int what) {
        if (!shelf.has(x)) return UNKNOWN;
        if (!shelf.texts[x].hasPlace(i) || what < 0 || what > 2) return OUTSIDE;
        ways.learn();
        ways.walk(x, i);
        if (what == 0) return ways.endText;
        return what == 1 ? ways.endPlace : ways.steps;
    }

    public int passed(int x, int y) {
        if (!shelf.has(x) || !shelf.has(y)) return UNKNOWN;
        if (x == y) return OUTSIDE;
        ways.learn();
        return ways.countThrough(x, y);
    }

    public int sprung(int x) {
        if (!shelf.has(x)) return UNKNOWN;
        ways.learn();
        return ways.countEndingIn(x);
    }

    // ---- likeness, sentences

    public int rows(int x, int r) {
        if (!shelf.has(x)) return UNKNOWN;
        if (!isRowSize(r)) return OUTSIDE;
        rowTable.fill(x, r);
        return rowTable.sizes[x];
    }

    public int likeness(int x, int y, int r, int what) {
        if (!shelf.has(x) || !shelf.has(y)) return UNKNOWN;
        if (!isRowSize(r) || what < 0 || what > 1) return OUTSIDE;
        rowTable.fill(x, r);
        rowTable.fill(y, r);
        rowTable.compare(x, y);
        return what == 0 ? rowTable.upper : rowTable.lower;
    }

    public int nearest(int x, int r) {
        if (!shelf.has(x)) return UNKNOWN;
        return isRowSize(r) ? rowTable.likestTo(x, r) : OUTSIDE;
    }

    public int family(int x, int r, int u) {
        if (!shelf.has(x)) return UNKNOWN;
        if (!isRowSize(r) || u < 0 || u > 100) return OUTSIDE;
        return rowTable.familyOf(x, r, u);
    }

    public int moved(int x, int y, int what) {
        if (!shelf.has(x) || !shelf.has(y)) return UNKNOWN;
        if (what < 0 || what > 2) return OUTSIDE;
        sentences.pair(shelf.texts[x], shelf.texts[y]);
        if (what == 0) return sentences.kept;
        return what == 1 ? sentences.kept - sentences.longestInOrder() : sentences.countOfX - sentences.kept;
    }

    // ---- what several calls share

    private static boolean isDay(int day) {
        return day >= 0 && day <= LAST_DAY;
    }

    private static boolean isWord(int w) {
        return w >= 1 && w <= LAST_WORD;
    }

    private static boolean isRowSize(int r) {
        return r >= 1 && r <= LONGEST_ROW;
    }

    /** 0, where text x may be looked at as known by k. */
    private int refusalOfLook(int x, int k) {
        if (!shelf.has(x)) return UNKNOWN;
        return k < 0 || k > shelf.size ? OUTSIDE : 0;
    }

    /** Text x is what the runs are of then. */
    private int sourcesLookedAt(int x, int k) {
        runs.lookAt(x);
        return runs.sourceSet(x, k);
    }

    private int takenCount() {
        return Long.bitCount(explanation.taken);
    }

    private int borrowedCount(int x) {
        return Long.bitCount(explanation.taken & ~marks.rightPlaces(x));
    }

    private int shareOf(int x, int borrowed) {
        int words = shelf.texts[x].size;
        return words == 0 ? 0 : borrowed * 100 / words;
    }

    private int verdictOn(int x) {
        if (takenCount() == 0) return VERDICT_OWN;
        int borrowed = borrowedCount(x);
        if (borrowed == 0) return VERDICT_CITED;
        int day = shelf.texts[x].day;
        int share = shareOf(x, borrowed);
        if (share >= book.holding(HEAVY, day)) return VERDICT_HEAVY;
        return share <= book.holding(LIGHT, day) ? VERDICT_LIGHT : VERDICT_MIXED;
    }

    /** What was worked out from words, meanings and rules is stale once one of these changes. */
    private void forget() {
        runs.looked = NONE;
        ways.known = false;
    }

    /** A text: its words, and as bits the places that have a stop behind them. */
    private static final class Text {
        private final int[] words = new int[MOST_WORDS];
        private long stops;
        private int writer;
        private int day;
        private int size;

        boolean hasPlace(int i) {
            return i >= 0 && i < size;
        }

        boolean spans(int i, int j) {
            return i >= 0 && i <= j && j < size;
        }

        boolean hasRoomFor(int more) {
            return size + more <= MOST_WORDS;
        }

        void append(int w) {
            if (size >= MOST_WORDS) return;
            words[size] = w;
            size++;
        }

        void appendStop() {
            if (size > 0) stops |= 1L << (size - 1);
        }

        boolean stopsBehind(int i) {
            return (stops >>> i & 1L) != 0;
        }

        boolean endsWithStop() {
            return size > 0 && stopsBehind(size - 1);
        }

        int sentenceCount() {
            int open = size > 0 && !endsWithStop() ? 1 : 0;
            return Long.bitCount(stops) + open;
        }

        /** Whether words i to j of another text stand side by side from this place on. */
        private boolean repeats(int place, Text other, int i, int j) {
            if (place < 0 || place + j - i >= size) return false;
            for (int m = 0; m <= j - i; m++) {
                if (words[place + m] != other.words[i + m]) return false;
            }
            return true;
        }

        boolean hasPassage(Text other, int i, int j) {
            for (int place = 0; place + j - i < size; place++) {
                if (repeats(place, other, i, j)) return true;
            }
            return false;
        }
    }

    /** All texts, by their numbers. */
    private static final class Shelf {
        private final Text[] texts = new Text[MOST_TEXTS];
        private int size;

        Shelf() {
            for (int x = 0; x < MOST_TEXTS; x++) texts[x] = new Text();
        }

        boolean has(int x) {
            return x >= 0 && x < size;
        }

        int open(int writer, int day) {
            if (size >= MOST_TEXTS) return FULL;
            Text text = texts[size];
            text.writer = writer;
            text.day = day;
            size++;
            return size - 1;
        }

        int wordCount() {
            int words = 0;
            for (int x = 0; x < size; x++) words += texts[x].size;
            return words;
        }

        boolean isOlder(int y, int x) {
            int days = texts[x].day - texts[y].day;
            return days > 0 || days == 0 && y < x;
        }
    }

    /** What is told of words: which of them mean the same, which are common. */
    private static final class Lexicon {
        /** Words that mean the same have the same number here, that of one of them. */
        private final int[] meaning = new int[LAST_WORD + 1];
        /** By these numbers: how many words have it. */
        private final int[] sharing = new int[LAST_WORD + 1];
        private final boolean[] isCommon = new boolean[LAST_WORD + 1];

        Lexicon() {
            for (int w = 0; w <= LAST_WORD; w++) {
                meaning[w] = w;
                sharing[w] = 1;
            }
        }

        int join(int v, int w) {
            int kept = meaning[v];
            int given = meaning[w];
            for (int u = 1; u <= LAST_WORD; u++) {
                if (meaning[u] == given) meaning[u] = kept;
            }
            sharing[kept] += sharing[given];
            return sharing[kept];
        }

        int countOfShared() {
            int shared = 0;
            for (int w = 1; w <= LAST_WORD; w++) {
                if (sharing[meaning[w]] > 1) shared++;
            }
            return shared;
        }

        int countOfCommon() {
            int commons = 0;
            for (int w = 1; w <= LAST_WORD; w++) {
                if (isCommon[w]) commons++;
            }
            return commons;
        }
    }

    /** What is marked as cited. How a mark stands is asked anew each time: the cited text may grow. */
    private static final class Marks {
        private final Shelf shelf;
        private final int[] citing = new int[MOST_MARKS];
        private final int[] from = new int[MOST_MARKS];
        private final int[] to = new int[MOST_MARKS];
        private final int[] cited = new int[MOST_MARKS];
        private int size;

        Marks(Shelf shelf) {
            this.shelf = shelf;
        }

        boolean has(int m) {
            return m >= 0 && m < size;
        }

        int add(int x, int i, int j, int y) {
            if (size >= MOST_MARKS) return FULL;
            citing[size] = x;
            from[size] = i;
            to[size] = j;
            cited[size] = y;
            size++;
            return size - 1;
        }

        int standing(int m) {
            int x = citing[m];
            int y = cited[m];
            if (y == NONE) return OPEN;
            if (!shelf.isOlder(y, x)) return WRONG;
            return shelf.texts[y].hasPassage(shelf.texts[x], from[m], to[m]) ? RIGHT : WRONG;
        }

        int howMany(int x, int standing) {
            int found = 0;
            for (int m = 0; m < size; m++) {
                if (citing[m] == x && standing(m) == standing) found++;
            }
            return found;
        }

        /** As bits: the places of x within marks that are right. */
        long rightPlaces(int x) {
            long places = 0;
            for (int m = 0; m < size; m++) {
                if (citing[m] == x && standing(m) == RIGHT) {
                    for (int i = from[m]; i <= to[m]; i++) places |= 1L << i;
                }
            }
            return places;
        }
    }

    /** Reads the text of a rule, clause by clause, up to its first fault. */
    private static final class RuleReader {
        private final int[] bytes = new int[MOST_BYTES];
        /** What the clauses set; NONE where they set nothing. */
        private final int[] told = new int[SETTINGS];
        private int struck;
        private int length;
        private int place;
        private int faultNumber;
        private int faultPlace = NONE;

        void append(int sign) {
            if (length >= MOST_BYTES) return;
            bytes[length] = sign;
            length++;
        }

        /** The fault's number; the text is empty then, with a fault or without. */
        int read(int rules) {
            faultNumber = NO_FAULT;
            faultPlace = NONE;
            place = 0;
            struck = 0;
            for (int what = 0; what < SETTINGS; what++) told[what] = NONE;
            skipBlanks();
            for (int clause = 0; clause <= MOST_CLAUSES && place < length && faultNumber == NO_FAULT; clause++) {
                readClause(clause, rules);
                skipBlanks();
            }
            length = 0;
            return faultNumber;
        }

        private void readClause(int clause, int rules) {
            int start = place;
            int kind = kindOf(start, endOfWord(start));
            if (kind == NONE) {
                fail(MISPLACED, start);
                return;
            }
            if (clause >= MOST_CLAUSES) {
                fail(NINTH_CLAUSE, start);
                return;
            }
            place = endOfWord(start);
            skipBlanks();
            if (kind == STRIKE) readStrike(rules);
            else if (kind == MEAN || kind == COMMON) readYes(kind);
            else readSetting(kind);
            skipBlanks();
            if (faultNumber != NO_FAULT) return;
            if (place < length && bytes[place] == ';') place++;
            else fail(MISPLACED, place);
        }

        private void readStrike(int rules) {
            int start = place;
            int number = readNumber();
            if (faultNumber != NO_FAULT) return;
            if (number >= rules) fail(NO_SUCH_RULE, start);
            else struck |= 1 << number;
        }

        private void readSetting(int kind) {
            int start = place;
            int number = readNumber();
            if (faultNumber != NO_FAULT) return;
            if (number < LOWEST[kind] || number > HIGHEST[kind]) fail(BAD_NUMBER, start);
            else told[kind] = number;
        }

        private void readYes(int kind) {
            int start = place;
            int end = endOfWord(start);
            if (spells(start, end, "yes")) told[kind] = 1;
            else if (spells(start, end, "no")) told[kind] = 0;
            else fail(MISPLACED, start);
            place = end;
        }

        private int readNumber() {
            int start = place;
            int number = 0;
            while (place < length && bytes[place] >= '0' && bytes[place] <= '9') {
                // Further figures would make the number overflow, and it is a fault anyway.
                if (place - start < MOST_FIGURES) number = number * 10 + bytes[place] - '0';
                place++;
            }
            if (place == start) fail(MISPLACED, start);
            else if (place - start > MOST_FIGURES) fail(BAD_NUMBER, start);
            return number;
        }

        private void fail(int number, int where) {
            faultNumber = number;
            faultPlace = where;
        }

        private void skipBlanks() {
            while (place < length && bytes[place] == ' ') place++;
        }

        private int endOfWord(int start) {
            int end = start;
            while (end < length && bytes[end] >= 'a' && bytes[end] <= 'z') end++;
            return end;
        }

        private int kindOf(int start, int end) {
            if (spells(start, end, "least")) return LEAST;
            if (spells(start, end, "slips")) return SLIPS;
            if (spells(start, end, "mean")) return MEAN;
            if (spells(start, end, "common")) return COMMON;
            if (spells(start, end, "free")) return FREE;
            if (spells(start, end, "light")) return LIGHT;
            if (spells(start, end, "heavy")) return HEAVY;
            return spells(start, end, "strike") ? STRIKE : NONE;
        }

        private boolean spells(int start, int end, String word) {
            if (end - start != word.length()) return false;
            for (int m = 0; m < word.length(); m++) {
                if (bytes[start + m] != word.charAt(m)) return false;
            }
            return true;
        }
    }

    /** The rules, and what holds by them on a day. */
    private static final class RuleBook {
        private final int[] days = new int[MOST_RULES];
        private final int[] struck = new int[MOST_RULES];
        private final int[][] told = new int[MOST_RULES][SETTINGS];
        private int size;

        int add(int day, int[] settings, int strikes) {
            if (size >= MOST_RULES) return FULL;
            days[size] = day;
            struck[size] = strikes;
            for (int what = 0; what < SETTINGS; what++) told[size][what] = settings[what];
            size++;
            return size - 1;
        }

        /** As bits: the rules that count on a day. A rule can be struck by a later number alone. */
        private int countingOn(int day) {
            int counting = 0;
            int out = 0;
            for (int r = size - 1; r >= 0; r--) {
                if (days[r] <= day && (out >>> r & 1) == 0) {
                    counting |= 1 << r;
                    out |= struck[r];
                }
            }
            return counting;
        }

        int holding(int what, int day) {
            int counting = countingOn(day);
            int value = AT_FIRST[what];
            int since = NONE;
            for (int r = 0; r < size; r++) {
                if ((counting >>> r & 1) != 0 && told[r][what] != NONE && days[r] >= since) {
                    value = told[r][what];
                    since = days[r];
                }
            }
            return value;
        }
    }

    /** The runs of the text that is looked at with each of its sources, by the rules of its day. */
    private static final class Runs {
        private final Shelf shelf;
        private final Lexicon lexicon;
        private final RuleBook book;
        /** Of source y and place i: as bits the sizes of runs that begin there. */
        private final long[][] sizes = new long[MOST_TEXTS][MOST_WORDS];
        /** Words are like, if their keys are the same. */
        private final int[] keys = new int[MOST_WORDS];
        /** How many words ahead of a place are not common. */
        private final int[] ownAhead = new int[MOST_WORDS + 1];
        /** As bits, of a key and of a place: where the source that the text is held against has a like word. */
        private final long[] placesOfKey = new long[LAST_WORD + 1];
        private final long[] likes = new long[MOST_WORDS];
        /** As bits, by the number of slips so far: the places from which on the source goes along. */
        private final long[] along = new long[MOST_SLIPS + 1];
        private int looked = NONE;
        private int size;
        private int least;
        private int slips;
        private boolean byMeaning;
        private boolean commonsCount;

        Runs(Shelf shelf, Lexicon lexicon, RuleBook book) {
            this.shelf = shelf;
            this.lexicon = lexicon;
            this.book = book;
        }

        int sourceSet(int x, int k) {
            int day = shelf.texts[x].day;
            int free = book.holding(FREE, day);
            int set = 0;
            for (int y = 0; y < k && y < shelf.size; y++) {
                if (shelf.isOlder(y, x) && day - shelf.texts[y].day < free) set |= 1 << y;
            }
            return set;
        }

        void lookAt(int x) {
            if (looked == x) return;
            takeUp(x);
            int set = sourceSet(x, shelf.size);
            for (int y = 0; y < shelf.size; y++) {
                boolean isSource = (set >>> y & 1) != 0;
                if (isSource) holdAgainst(y);
                for (int i = 0; i < size; i++) sizes[y][i] = isSource ? sizesAt(i) : 0;
            }
            looked = x;
        }

        private void takeUp(int x) {
            Text text = shelf.texts[x];
            least = book.holding(LEAST, text.day);
            slips = book.holding(SLIPS, text.day);
            byMeaning = book.holding(MEAN, text.day) == 1;
            commonsCount = book.holding(COMMON, text.day) == 1;
            size = text.size;
            ownAhead[0] = 0;
            for (int i = 0; i < size; i++) {
                int w = text.words[i];
                keys[i] = keyOf(w);
                ownAhead[i + 1] = ownAhead[i] + (lexicon.isCommon[w] ? 0 : 1);
            }
        }

        private int keyOf(int w) {
            return byMeaning ? lexicon.meaning[w] : w;
        }

        /** Keys that the text has not are left as they are: they are never asked for. */
        private void holdAgainst(int y) {
            Text source = shelf.texts[y];
            for (int i = 0; i < size; i++) placesOfKey[keys[i]] = 0;
            for (int j = 0; j < source.size; j++) placesOfKey[keyOf(source.words[j])] |= 1L << j;
            for (int i = 0; i < size; i++) likes[i] = placesOfKey[keys[i]];
        }

        private long sizesAt(int i) {
            long found = 0;
            begin(i);
            for (int n = 2; n <= size - i && goesAlong(); n++) {
                if (extend(i, n) != 0 && n >= least && isOwnEnough(i, n)) found |= 1L << n;
            }
            return found;
        }

        /** A run begins with a like word: the source goes along from each place that has one. */
        private void begin(int i) {
            for (int slipped = 0; slipped <= MOST_SLIPS; slipped++) along[slipped] = 0;
            along[0] = likes[i];
        }

        private boolean goesAlong() {
            return (along[0] | along[1] | along[2] | along[3]) != 0;
        }

        /**
         * From n - 1 words to n: as bits the places from which on they may be a run, as the last one is like, too.
         * All places go at once, as behind the end of the source no word is like.
         */
        private long extend(int i, int n) {
            long like = likes[i + n - 1] >>> (n - 1);
            long ending = 0;
            for (int slipped = slips; slipped >= 0; slipped--) {
                long slipping = slipped == 0 ? 0 : along[slipped - 1] & ~like;
                long staying = along[slipped] & like;
                along[slipped] = staying | slipping;
                ending |= staying;
            }
            return ending;
        }

        private boolean isOwnEnough(int i, int n) {
            return commonsCount || ownAhead[i + n] - ownAhead[i] >= n / 2;
        }

        long sizesWithin(int i, int set) {
            long found = 0;
            for (int y = 0; y < shelf.size; y++) {
                if ((set >>> y & 1) != 0) found |= sizes[y][i];
            }
            return found;
        }

        int longestAt(int i, int set) {
            long found = sizesWithin(i, set);
            int n = size - i;
            while (n > 0 && (found >>> n & 1L) == 0) n--;
            return Math.max(n, 0);
        }

        int firstSource(int i, int n, int set) {
            for (int y = 0; y < shelf.size; y++) {
                if ((set >>> y & 1) != 0 && (sizes[y][i] >>> n & 1L) != 0) return y;
            }
            return NONE;
        }

        int leastPlace(int y, int i, int n) {
            if (!shelf.has(y)) return NONE;
            holdAgainst(y);
            begin(i);
            long ending = 0;
            for (int m = 2; m <= n; m++) ending = extend(i, m);
            for (int j = 0; j < shelf.texts[y].size; j++) {
                if ((ending >>> j & 1L) != 0) return j;
            }
            return NONE;
        }

        /** Of a set of sources those with which there is a run at all. */
        int withRuns(int set) {
            int useful = 0;
            for (int y = 0; y < shelf.size; y++) {
                for (int i = 0; i < size; i++) {
                    if ((set >>> y & 1) != 0 && sizes[y][i] != 0) useful |= 1 << y;
                }
            }
            return useful;
        }
    }

    /** The pieces by which the text that is looked at is explained from a set of sources. */
    private static final class Explanation {
        private final Runs runs;
        /** From a place on to the end: the most words in pieces, and the fewest pieces for as many. */
        private final int[] most = new int[MOST_WORDS + 1];
        private final int[] fewestPieces = new int[MOST_WORDS + 1];
        /** The size of the piece that begins at a place, where the text is explained from there on; 0: none does. */
        private final int[] choice = new int[MOST_WORDS];
        private final int[] starts = new int[MOST_WORDS];
        private final int[] sizes = new int[MOST_WORDS];
        private int pieces;
        private long taken;

        Explanation(Runs runs) {
            this.runs = runs;
        }

        void explain(int set) {
            weigh(set);
            pieces = 0;
            taken = 0;
            int next = 0;
            for (int i = 0; i < runs.size; i++) {
                if (i >= next && choice[i] > 0) {
                    starts[pieces] = i;
                    sizes[pieces] = choice[i];
                    pieces++;
                    next = i + choice[i];
                }
                if (i < next) taken |= 1L << i;
            }
        }

        /** How many words are taken from these sources. */
        private int weigh(int set) {
            most[runs.size] = 0;
            fewestPieces[runs.size] = 0;
            for (int i = runs.size - 1; i >= 0; i--) choose(i, runs.sizesWithin(i, set));
            return most[0];
        }

        /** A piece here is ahead of none here that is as good, and a greater one ahead of a smaller one. */
        private void choose(int i, long open) {
            most[i] = most[i + 1];
            fewestPieces[i] = fewestPieces[i + 1];
            choice[i] = 0;
            if (open == 0) return;
            for (int n = runs.least; n <= runs.size - i; n++) {
                int words = n + most[i + n];
                int count = 1 + fewestPieces[i + n];
                boolean asGood = words > most[i] || words == most[i] && count <= fewestPieces[i];
                if ((open >>> n & 1L) != 0 && asGood) {
                    most[i] = words;
                    fewestPieces[i] = count;
                    choice[i] = n;
                }
            }
        }

        int smallestSet(int set) {
            int wanted = weigh(set);
            int useful = runs.withRuns(set);
            int sources = Integer.bitCount(useful);
            for (int size = 0; size < sources; size++) {
                for (int part = 0; part < useful; part++) {
                    boolean isPart = (part & ~useful) == 0 && Integer.bitCount(part) == size;
                    if (isPart && weigh(part) == wanted) return part;
                }
            }
            return useful;
        }
    }

    /** Where each word was taken from, and by that the way to who had it first. */
    private static final class Ways {
        private final Shelf shelf;
        private final Runs runs;
        private final Explanation explanation;
        private final int[][] fromText = new int[MOST_TEXTS][MOST_WORDS];
        private final int[][] fromPlace = new int[MOST_TEXTS][MOST_WORDS];
        private boolean known;
        private int endText;
        private int endPlace;
        private int steps;
        /** As bits: the texts that the latest way came to, the first one left out. */
        private int visited;

        Ways(Shelf shelf, Runs runs, Explanation explanation) {
            this.shelf = shelf;
            this.runs = runs;
            this.explanation = explanation;
        }

        /** Comes ahead of all that is asked of ways. */
        void learn() {
            if (known) return;
            for (int x = 0; x < shelf.size; x++) learnText(x);
            known = true;
        }

        private void learnText(int x) {
            runs.lookAt(x);
            int set = runs.sourceSet(x, shelf.size);
            explanation.explain(set);
            for (int i = 0; i < shelf.texts[x].size; i++) fromText[x][i] = NONE;
            for (int p = 0; p < explanation.pieces; p++) {
                int start = explanation.starts[p];
                int n = explanation.sizes[p];
                int y = runs.firstSource(start, n, set);
                int j = runs.leastPlace(y, start, n);
                for (int m = 0; m < n; m++) {
                    fromText[x][start + m] = y;
                    fromPlace[x][start + m] = j + m;
                }
            }
        }

        /** Each step leads to an older text, so there are fewer steps than texts. */
        void walk(int x, int i) {
            endText = x;
            endPlace = i;
            steps = 0;
            visited = 0;
            while (steps < MOST_TEXTS && fromText[endText][endPlace] != NONE) {
                int next = fromText[endText][endPlace];
                endPlace = fromPlace[endText][endPlace];
                endText = next;
                visited |= 1 << next;
                steps++;
            }
        }

        int countThrough(int x, int y) {
            int through = 0;
            for (int i = 0; i < shelf.texts[x].size; i++) {
                walk(x, i);
                through += visited >>> y & 1;
            }
            return through;
        }

        int countEndingIn(int y) {
            int ending = 0;
            for (int x = 0; x < shelf.size; x++) {
                for (int i = 0; i < shelf.texts[x].size; i++) {
                    walk(x, i);
                    if (endText == y) ending++;
                }
            }
            return ending;
        }
    }

    /** Rows of words side by side, and the likeness of texts by them. */
    private static final class RowTable {
        private final Shelf shelf;
        /** The rows of each text, each once, as numbers that ascend. */
        private final long[][] codes = new long[MOST_TEXTS][MOST_WORDS];
        private final int[] sizes = new int[MOST_TEXTS];
        private final int[] families = new int[MOST_TEXTS];
        private int upper;
        private int lower;

        RowTable(Shelf shelf) {
            this.shelf = shelf;
        }

        void fill(int x, int r) {
            Text text = shelf.texts[x];
            sizes[x] = 0;
            for (int i = 0; i + r <= text.size; i++) {
                long code = 0;
                for (int m = 0; m < r; m++) code = code * (LAST_WORD + 1) + text.words[i + m];
                insert(x, code);
            }
        }

        private void fillAll(int r) {
            for (int x = 0; x < shelf.size; x++) fill(x, r);
        }

        private void insert(int x, long code) {
            long[] row = codes[x];
            int place = sizes[x];
            while (place > 0 && row[place - 1] > code) place--;
            boolean isThere = place > 0 && row[place - 1] == code;
            if (isThere || sizes[x] >= MOST_WORDS) return;
            for (int m = sizes[x]; m > place; m--) row[m] = row[m - 1];
            row[place] = code;
            sizes[x]++;
        }

        /** The likeness of two texts whose rows are filled in, in least terms. */
        void compare(int x, int y) {
            int both = countInBoth(x, y);
            int either = sizes[x] + sizes[y] - both;
            int divisor = commonDivisor(either, both);
            upper = divisor == 0 ? 0 : both / divisor;
            lower = divisor == 0 ? 1 : either / divisor;
        }

        private int countInBoth(int x, int y) {
            int both = 0;
            int j = 0;
            for (int i = 0; i < sizes[x]; i++) {
                while (j < sizes[y] && codes[y][j] < codes[x][i]) j++;
                if (j < sizes[y] && codes[y][j] == codes[x][i]) both++;
            }
            return both;
        }

        /** The rest falls at every turn and is never above the rows of a text, so the bound is never met. */
        private static int commonDivisor(int a, int b) {
            int greater = a;
            int rest = b;
            for (int turn = 0; turn < 1000 && rest > 0; turn++) {
                int next = greater % rest;
                greater = rest;
                rest = next;
            }
            return greater;
        }

        int likestTo(int x, int r) {
            fillAll(r);
            int likest = NONE;
            int bestUpper = 0;
            int bestLower = 1;
            for (int y = 0; y < shelf.size; y++) {
                if (y == x) continue;
                compare(x, y);
                if (likest == NONE || upper * bestLower > bestUpper * lower) {
                    likest = y;
                    bestUpper = upper;
                    bestLower = lower;
                }
            }
            return likest;
        }

        int familyOf(int x, int r, int u) {
            fillAll(r);
            for (int y = 0; y < shelf.size; y++) families[y] = y;
            for (int y = 0; y < shelf.size; y++) {
                for (int z = 0; z < y; z++) {
                    compare(y, z);
                    if (upper * 100 >= u * lower) joinFamilies(families[y], families[z]);
                }
            }
            return families[x];
        }

        /** The lower number stays, so that a family always has that of its least text. */
        private void joinFamilies(int f, int g) {
            int kept = Math.min(f, g);
            int given = Math.max(f, g);
            for (int y = 0; y < shelf.size; y++) {
                if (families[y] == given) families[y] = kept;
            }
        }
    }

    /** The sentences of two texts, paired where they are the same. */
    private static final class Sentences {
        /** The place behind each sentence. */
        private final int[] endsOfX = new int[MOST_WORDS];
        private final int[] endsOfY = new int[MOST_WORDS];
        /** Of each pair, by the order in x: the number of its sentence in y. */
        private final int[] partners = new int[MOST_WORDS];
        private final int[] chains = new int[MOST_WORDS];
        private int countOfX;
        private int kept;

        void pair(Text x, Text y) {
            countOfX = split(x, endsOfX);
            int countOfY = split(y, endsOfY);
            kept = 0;
            long used = 0;
            for (int s = 0; s < countOfX; s++) {
                int partner = NONE;
                for (int t = 0; t < countOfY && partner == NONE; t++) {
                    if ((used >>> t & 1L) == 0 && isSameSentence(x, s, y, t)) partner = t;
                }
                if (partner != NONE) {
                    used |= 1L << partner;
                    partners[kept] = partner;
                    kept++;
                }
            }
        }

        private static int split(Text text, int[] ends) {
            int found = 0;
            for (int i = 0; i < text.size; i++) {
                if (text.stopsBehind(i) || i == text.size - 1) {
                    ends[found] = i + 1;
                    found++;
                }
            }
            return found;
        }

        private boolean isSameSentence(Text x, int s, Text y, int t) {
            int i = s == 0 ? 0 : endsOfX[s - 1];
            int j = t == 0 ? 0 : endsOfY[t - 1];
            if (endsOfX[s] - i != endsOfY[t] - j) return false;
            return y.repeats(j, x, i, endsOfX[s] - 1);
        }

        /** How many pairs at most are in one order in both texts. */
        int longestInOrder() {
            int longest = 0;
            for (int p = 0; p < kept; p++) {
                chains[p] = 1;
                for (int q = 0; q < p; q++) {
                    if (partners[q] < partners[p]) chains[p] = Math.max(chains[p], chains[q] + 1);
                }
                longest = Math.max(longest, chains[p]);
            }
            return longest;
        }
    }
}
