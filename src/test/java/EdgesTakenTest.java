/** The boundary cases of part 3, promises 17 to 22: each sentence that names one has a test of its own. */
final class EdgesTakenTest {
    private static final int NONE = Due.NONE, UNKNOWN = Due.UNKNOWN, OUTSIDE = Due.OUTSIDE;
    private static final Edges edges = new Edges();

    public static void main(String[] args) {
        knownBy();
        sourcesAreOlder();
        freeDays();
        rulesOfItsDay();
        likeWords();
        leastOrMore();
        slipsAtMost();
        firstAndLastAreLike();
        halfNotCommon();
        withinBothTexts();
        greatestReach();
        firstSourceAndLeastPlace();
        reachBounds();
        mostWordsInPieces();
        fewestPieces();
        firstOfLikeOnes();
        thirtyPieces();
        fromTheFirstSource();
        pieceBounds();
        notInRightMarks();
        shares();
        ownAndCited();
        lightAndHeavy();
        judgedBounds();
        fewestSources();
        leastSet();
        hangsOn();
        textWithoutWords();
        sourceWithoutWords();
        refusalsInOrder();
        edges.end();
    }

    /** Words one behind the other: from this one on, as many. */
    private static int[] row(int from, int many) {
        int[] words = new int[many];
        for (int m = 0; m < many; m++) words[m] = from + m;
        return words;
    }

    private static int[] joined(int[] a, int[] b) {
        int[] both = java.util.Arrays.copyOf(a, a.length + b.length);
        System.arraycopy(b, 0, both, a.length, b.length);
        return both;
    }

    /** Reach of place 0 of text 1 in text 0. */
    private static int reach(String rule, int[] source, int[] text) {
        return Due.with(rule, source, text).reach(1, 2, 0, 0);
    }

    private static void knownBy() {
        edges.says("SOURCES of a TEXT AS KNOWN by k (0 .. TEXTS): the SET");
        BorrowedWords b = Due.with("", Due.words(), Due.words(), Due.words());
        int[] want = {0, 0b001, 0b011, 0b011};
        for (int k = 0; k <= 3; k++) edges.is("of 2 by " + k, b.sources(2, k), want[k]);
        edges.is("of 0 by all", b.sources(0, 3), 0);
        edges.is("of 1 by all", b.sources(1, 3), 0b001);
        BorrowedWords full = Edges.full();
        for (int k = 0; k <= 10; k++) edges.is("of 9 by " + k, full.sources(9, k), (1 << Math.min(k, 9)) - 1);
        for (int k : Edges.beyond(0, 10)) edges.refused("of a full object by " + k, Edges::full, o -> o.sources(9, k), OUTSIDE);
        for (int k : Edges.beyond(0, 3)) {
            edges.refused("sources by " + k, Edges::few, o -> o.sources(1, k), OUTSIDE);
            edges.refused("reach by " + k, Edges::few, o -> o.reach(1, k, 0, 0), OUTSIDE);
            edges.refused("piece by " + k, Edges::few, o -> o.piece(1, k, 0, 0), OUTSIDE);
            edges.refused("pieces by " + k, Edges::few, o -> o.piece(1, k, NONE, 0), OUTSIDE);
            edges.refused("judged by " + k, Edges::few, o -> o.judged(1, k, 0), OUTSIDE);
            edges.refused("fewest by " + k, Edges::few, o -> o.fewest(1, k), OUTSIDE);
            edges.refused("hangs by " + k, Edges::few, o -> o.hangs(1, k), OUTSIDE);
        }
        BorrowedWords late = Due.with("least 2;", Due.words(1, 2), Due.words(1, 2), Due.words(1, 2));
        int[] from = {NONE, 0, 0, 0};
        for (int k = 0; k <= 3; k++) edges.is("reach is from, by " + k, late.reach(2, k, 0, 1), from[k]);
    }

    private static void sourcesAreOlder() {
        edges.says("of TEXTS 0 to k - 1 those that are OLDER than x");
        BorrowedWords b = new BorrowedWords();
        int[] days = {5, 4, 5, 6, 5};
        for (int day : days) b.text(0, day);
        int[] want = {0b00010, 0, 0b00011, 0b10111, 0b00111};
        for (int x = 0; x < 5; x++) edges.is("of " + x, b.sources(x, 5), want[x]);
        BorrowedWords ten = new BorrowedWords();
        ten.text(0, 999);
        for (int y = 1; y < 10; y++) ten.text(0, 998);
        edges.is("all the others", ten.sources(0, 10), 0b1111111110);
        edges.is("all but the last", ten.sources(0, 9), 0b0111111110);
        edges.is("of the last: those of its day", ten.sources(9, 10), 0b0111111110);
    }

    /** Texts of these days: whether the first is a source of the second. */
    private static int isSource(String rule, int day, int dayOfX) {
        BorrowedWords b = new BorrowedWords();
        if (!rule.isEmpty()) Due.rule(b, rule, 0);
        b.text(0, day);
        b.text(0, dayOfX);
        return b.sources(1, 2);
    }

    private static void freeDays() {
        edges.says("and whose DAY is not free DAYS or more before x's: SOURCES");
        edges.is("at first, 899 days", isSource("", 0, 899), 1);
        edges.is("at first, 900 days", isSource("", 0, 900), 0);
        edges.is("at first, 901 days", isSource("", 0, 901), 0);
        edges.is("free 999, 998 days", isSource("free 999;", 1, 999), 1);
        edges.is("free 999, 999 days", isSource("free 999;", 0, 999), 0);
        edges.is("free 0, the same day", isSource("free 0;", 7, 7), 0);
        edges.is("free 1, the same day", isSource("free 1;", 7, 7), 1);
        edges.is("free 1, the day ahead", isSource("free 1;", 6, 7), 0);
        edges.is("free 2, the day ahead", isSource("free 2;", 6, 7), 1);
        edges.is("free 2, two days ahead", isSource("free 2;", 5, 7), 0);
        BorrowedWords b = Due.with("least 2;free 0;", Due.words(1, 2), Due.words(1, 2));
        edges.is("free 0: nothing is taken", b.judged(1, 2, 0), 0);
    }

    private static void rulesOfItsDay() {
        edges.says("A TEXT x is looked at by RULES of its DAY");
        BorrowedWords b = new BorrowedWords();
        Due.write(b, 0, 0, 1, 2, 3);
        Due.write(b, 0, 5, 1, 2, 3);
        Due.write(b, 0, 6, 1, 2, 3);
        Due.rule(b, "least 3;", 6);
        edges.is("the day ahead of the rule's", b.judged(1, 3, 0), 0);
        edges.is("the rule's day", b.judged(2, 3, 0), 3);
        Due.rule(b, "free 6;", 6);
        edges.is("sources by the rules of its day", b.sources(2, 3), 0b10);
        edges.is("sources of the other", b.sources(1, 3), 0b01);
        BorrowedWords last = new BorrowedWords();
        Due.write(last, 0, 999, 1, 2);
        Due.write(last, 0, 999, 1, 2);
        Due.rule(last, "least 2;", 999);
        edges.is("the last day", last.judged(1, 2, 0), 2);
    }

    private static void likeWords() {
        edges.says("Two WORDS are LIKE, if they are the same, or (mean yes) MEAN THE SAME");
        String[] rules = {"least 2;", "least 2;mean yes;"};
        for (int mean = 0; mean < 2; mean++) {
            BorrowedWords b = Due.with(rules[mean], Due.words(1, 200), Due.words(100, 2));
            edges.is("not told, " + rules[mean], b.reach(1, 2, 0, 0), 0);
            b.same(1, 50);
            b.same(50, 100);
            edges.is("one pair of two, " + rules[mean], b.reach(1, 2, 0, 0), 0);
            b.same(2, 200);
            edges.is("both, " + rules[mean], b.reach(1, 2, 0, 0), mean == 0 ? 0 : 2);
        }
        edges.is("the same, mean yes", reach("least 2;mean yes;", Due.words(1, 200), Due.words(1, 200)), 2);
    }

    private static void leastOrMore() {
        edges.says("and a size n of least or more");
        int[] sizes = {2, 3, 4, 19, 20};
        for (int least : sizes) {
            String rule = "least " + least + ";";
            edges.is(rule + " just as many", reach(rule, row(1, least), row(1, least)), least);
            edges.is(rule + " one less", reach(rule, row(1, least - 1), row(1, least - 1)), 0);
            edges.is(rule + " one less, and other words", reach(rule, joined(row(1, least - 1), row(90, 9)), joined(row(1, least - 1), row(80, 9))), 0);
            edges.is(rule + " one more", reach(rule, row(1, least + 1), row(1, least + 1)), least + 1);
        }
        edges.is("at first four", reach("", row(1, 4), row(1, 4)), 4);
        edges.is("at first not three", reach("", row(1, 3), row(1, 3)), 0);
        edges.is("sixty", reach("least 20;", row(1, 60), row(1, 60)), 60);
    }

    private static void slipsAtMost() {
        edges.says("so that of n pairs of WORDS (i + m, j + m) all are LIKE but slips at most");
        for (int slips = 0; slips <= 3; slips++) {
            String rule = "least 8;slips " + slips + ";";
            for (int slipped = 0; slipped <= 4; slipped++) {
                int[] side = row(1, 8);
                int[] apart = row(1, 8);
                for (int s = 0; s < slipped; s++) {
                    side[1 + s] = 100 + s;
                    apart[s < 3 ? 1 + 2 * s : 6] = 100 + s;
                }
                int want = slipped <= slips ? 8 : 0;
                edges.is(rule + " side by side " + slipped, reach(rule, row(1, 8), side), want);
                edges.is(rule + " apart " + slipped, reach(rule, row(1, 8), apart), want);
            }
        }
        edges.is("at first none", reach("", row(1, 5), Due.words(1, 2, 9, 4, 5)), 0);
        edges.is("all between", reach("least 2;slips 3;", row(1, 5), Due.words(1, 7, 8, 9, 5)), 5);
        edges.is("three by two slips", reach("least 2;slips 2;", row(1, 4), Due.words(1, 7, 8, 4)), 4);
        edges.is("of sixty three", reach("least 20;slips 3;", row(1, 60), joined(Due.words(1, 90, 91, 92), row(5, 56))), 60);
    }

    private static void firstAndLastAreLike() {
        edges.says("the first and the last of them are LIKE");
        String rule = "least 2;slips 3;";
        edges.is("a slip at the first", reach(rule, row(1, 4), Due.words(9, 2, 3, 4)), 0);
        edges.is("a slip at the last", reach(rule, row(1, 4), Due.words(1, 2, 3, 9)), 3);
        edges.is("slips at the last three", reach(rule, row(1, 4), Due.words(1, 7, 8, 9)), 0);
        edges.is("the last of a row of four", reach("least 4;slips 3;", row(1, 4), Due.words(1, 2, 3, 9)), 0);
        edges.is("one word alone is none", reach(rule, Due.words(1), Due.words(1)), 0);
        BorrowedWords b = Due.with("least 2;slips 1;", row(1, 5), Due.words(1, 2, 9, 4, 5));
        int[] want = {5, 4, 0, 2, 0};
        for (int i = 0; i < 5; i++) edges.is("reach of " + i, b.reach(1, 2, i, 0), want[i]);
    }

    /** A text of n words that are all in a source, as many of them not common as this; only all of them can be a run. */
    private static int reachWithOwn(int n, int own, String rule) {
        BorrowedWords b = Due.with("least " + n + ";" + rule, row(1, n), row(1, n));
        for (int w = own + 1; w <= n; w++) b.common(w, true);
        return b.reach(1, 2, 0, 0);
    }

    private static void halfNotCommon() {
        edges.says("and (common no) at least half (n / 2) of the WORDS of x in it are not COMMON");
        int[] sizes = {2, 3, 4, 5, 19, 20};
        for (int n : sizes) {
            edges.is("half of " + n, reachWithOwn(n, n / 2, "common no;"), n);
            edges.is("one less of " + n, reachWithOwn(n, n / 2 - 1, "common no;"), 0);
            edges.is("none of " + n + ", common yes", reachWithOwn(n, 0, ""), n);
            edges.is("all of " + n, reachWithOwn(n, n, "common no;"), n);
        }
        BorrowedWords of = Due.with("least 2;mean yes;common no;", Due.words(11, 12), Due.words(1, 2));
        of.same(1, 11);
        of.same(2, 12);
        of.common(11, true);
        of.common(12, true);
        edges.is("those of the source do not matter", of.reach(1, 2, 0, 0), 2);
        of.common(1, true);
        edges.is("one of x", of.reach(1, 2, 0, 0), 2);
        of.common(2, true);
        edges.is("both of x", of.reach(1, 2, 0, 0), 0);
        BorrowedWords slipped = Due.with("least 4;slips 2;common no;", row(1, 4), Due.words(1, 8, 9, 4));
        slipped.common(1, true);
        slipped.common(4, true);
        edges.is("slipped words of x count, too", slipped.reach(1, 2, 0, 0), 4);
        slipped.common(8, true);
        edges.is("where they are common, too", slipped.reach(1, 2, 0, 0), 0);
    }

    private static void withinBothTexts() {
        edges.says("A RUN of x with a SOURCE y: places i of x, j of y");
        edges.is("to the source's end", reach("least 2;", Due.words(9, 1, 2), Due.words(1, 2, 3)), 2);
        edges.is("over the source's end", reach("least 3;", Due.words(9, 1, 2), Due.words(1, 2, 3)), 0);
        edges.is("to the text's end", reach("least 2;", Due.words(1, 2, 3), Due.words(1, 2)), 2);
        edges.is("over the source's end by a slip", reach("least 3;slips 3;", Due.words(1, 2), Due.words(1, 2, 3, 4)), 0);
        BorrowedWords b = Due.with("least 2;", joined(row(61, 58), Due.words(1, 2)), joined(row(121, 58), Due.words(1, 2)));
        edges.is("the last two places", b.reach(1, 2, 58, 0), 2);
        edges.is("the last two of the source", b.reach(1, 2, 58, 2), 58);
        edges.is("the last place", b.reach(1, 2, 59, 0), 0);
        edges.is("taken", b.judged(1, 2, 0), 2);
    }

    private static void greatestReach() {
        edges.says("the greatest n of a RUN that begins there");
        BorrowedWords b = Due.with("least 20;", row(1, 60), row(1, 60));
        edges.is("of 0", b.reach(1, 2, 0, 0), 60);
        edges.is("of 1", b.reach(1, 2, 1, 0), 59);
        edges.is("of 40", b.reach(1, 2, 40, 0), 20);
        edges.is("of 41", b.reach(1, 2, 41, 0), 0);
        edges.is("of 59", b.reach(1, 2, 59, 0), 0);
        BorrowedWords more = Due.with("least 2;", Due.words(1, 2, 3), Due.words(1, 2), Due.words(1, 2, 3, 4));
        edges.is("the longer one", more.reach(2, 3, 0, 0), 3);
        edges.is("in the same source, behind", reach("least 2;", Due.words(1, 2, 9, 1, 2, 3), Due.words(1, 2, 3)), 3);
        BorrowedWords gap = Due.with("least 2;slips 1;common no;", row(1, 6), row(1, 6));
        for (int w = 2; w <= 6; w++) gap.common(w, true);
        edges.is("three may be one where six are none", gap.reach(1, 2, 0, 0), 3);
    }

    private static void firstSourceAndLeastPlace() {
        edges.says("and of these of the first SOURCE (by numbers) and the least j");
        BorrowedWords b = new BorrowedWords();
        Due.rule(b, "least 2;", 0);
        Due.write(b, 0, 9, 1, 2);
        Due.write(b, 0, 8, 7, 1, 2, 1, 2);
        Due.write(b, 0, 3, 1, 2);
        edges.is("not the oldest, but the first by numbers", b.reach(0, 3, 0, 1), 1);
        edges.is("the least j", b.reach(0, 3, 0, 2), 1);
        Due.write(b, 0, 3, 1, 2, 3);
        Due.add(b, 0, 3);
        edges.is("the greatest n ahead of the first", b.reach(0, 4, 0, 1), 3);
        edges.is("its j", b.reach(0, 4, 0, 2), 0);
        BorrowedWords last = new BorrowedWords();
        Due.rule(last, "least 2;", 0);
        Due.write(last, 0, 9, 1, 2);
        for (int y = 1; y < 9; y++) Due.write(last, 0, 8, 2, 1);
        Due.write(last, 0, 8, 1, 2);
        edges.is("source 9", last.reach(0, 10, 0, 1), 9);
        edges.is("not known yet", last.reach(0, 9, 0, 1), NONE);
    }

    private static void reachBounds() {
        edges.says("REACH of place i of a TEXT, likewise: what = 0 n (0: there is none), 1 the SOURCE, 2 j (NONE). UNKNOWN, OUTSIDE");
        BorrowedWords b = Due.with("least 2;", Due.words(9, 1, 2), Due.words(1, 2, 3));
        int[][] want = {{2, 0, 1}, {0, NONE, NONE}, {0, NONE, NONE}};
        for (int i = 0; i < 3; i++) {
            for (int what = 0; what < 3; what++) edges.is("place " + i + ", " + what, b.reach(1, 2, i, what), want[i][what]);
        }
        for (int what : Edges.beyond(0, 2)) edges.refused("what " + what, Edges::few, o -> o.reach(1, 3, 0, what), OUTSIDE);
        for (int i : Edges.beyond(0, 4)) edges.refused("place " + i, Edges::few, o -> o.reach(1, 3, i, 0), OUTSIDE);
        for (int i : Edges.beyond(0, 59)) edges.refused("place " + i + " of sixty", Edges::full, o -> o.reach(9, 10, i, 0), OUTSIDE);
        for (int x : Edges.strangers(3)) edges.refused("text " + x, Edges::few, o -> o.reach(x, 3, 0, 0), UNKNOWN);
    }

    private static void pieces(String name, BorrowedWords b, int x, int[]... want) {
        int k = b.count(0);
        edges.is(name + ": how many", b.piece(x, k, NONE, 0), want.length);
        for (int p = 0; p < want.length; p++) {
            for (int what = 0; what < want[p].length; what++) edges.is(name + ": piece " + p + ", " + what, b.piece(x, k, p, what), want[p][what]);
        }
        edges.is(name + ": no more", b.piece(x, k, want.length, 0), NONE);
    }

    private static void mostWordsInPieces() {
        edges.says("none two of them over one another: the most WORDS in pieces");
        pieces("two of three ahead of one of five", Due.with("least 3;", row(2, 5), row(1, 3), row(5, 3), row(1, 7)), 3,
            new int[] {0, 3, 1, 0}, new int[] {3, 3, 0, 2});
        pieces("they would lie over one another", Due.with("least 3;", row(1, 3), row(3, 3), row(1, 5)), 2, new int[] {0, 3, 0, 0});
        pieces("side by side", Due.with("least 3;", row(1, 3), row(4, 3), row(1, 6)), 2, new int[] {0, 3, 0, 0}, new int[] {3, 3, 1, 0});
        pieces("the later one has more", Due.with("", row(1, 4), row(3, 5), row(1, 7)), 2, new int[] {2, 5, 1, 0});
        pieces("none", Due.with("", row(1, 3), row(1, 3)), 1);
        pieces("all sixty", Due.with("", row(1, 60), row(1, 60)), 1, new int[] {0, 60, 0, 0});
    }

    private static void fewestPieces() {
        edges.says("of like ones the fewest pieces");
        pieces("one ahead of two", Due.with("least 2;", row(1, 2), row(3, 2), row(1, 4), row(1, 4)), 3, new int[] {0, 4, 2, 0});
        pieces("two ahead of three, though the first is smaller",
            Due.with("least 2;slips 1;", row(1, 3), Due.words(3, 99, 5, 6, 7), row(4, 2), row(1, 7)), 3, new int[] {0, 2, 0, 0}, new int[] {2, 5, 1, 0});
    }

    private static void firstOfLikeOnes() {
        edges.says("of like ones the first: by the first piece's i, then its size (the greater first), then the next one's, and so on");
        pieces("the lesser i", Due.with("least 3;", row(1, 3), row(2, 3), row(1, 4)), 2, new int[] {0, 3, 0, 0});
        pieces("the greater first", Due.with("least 2;", row(1, 3), row(3, 3), row(1, 5)), 2, new int[] {0, 3, 0, 0}, new int[] {3, 2, 1, 1});
        pieces("the lesser i ahead of the greater one", Due.with("least 2;", row(1, 2), row(2, 3), row(4, 3), row(1, 6)), 3,
            new int[] {0, 2, 0, 0}, new int[] {2, 2, 1, 1}, new int[] {4, 2, 2, 1});
        pieces("the next one's i", Due.with("least 3;", row(1, 3), row(4, 3), row(5, 3), row(1, 7)), 3,
            new int[] {0, 3, 0, 0}, new int[] {3, 3, 1, 0});
        int[] text = joined(Due.words(91, 92, 99), row(1, 5));
        pieces("the next one's size", Due.with("least 2;", Due.words(91, 92), row(1, 3), row(3, 3), text), 3,
            new int[] {0, 2, 0, 0}, new int[] {3, 3, 1, 0}, new int[] {6, 2, 2, 1});
    }

    /** The source has the pairs of words of the text from the last to the first, so that no three words are a run. */
    private static BorrowedWords pairs() {
        BorrowedWords b = new BorrowedWords();
        Due.rule(b, "least 2;", 0);
        Due.write(b, 0, 0, row(1, 60));
        Due.write(b, 0, 0);
        for (int w = 59; w >= 1; w -= 2) Due.add(b, 1, w, w + 1);
        return b;
    }

    private static void thirtyPieces() {
        edges.says("each a row of WORDS from some i on, of a size from least up to REACH of i that is a RUN with some SOURCE");
        BorrowedWords b = pairs();
        edges.is("thirty", b.piece(1, 2, NONE, 0), 30);
        edges.is("all are taken", b.judged(1, 2, 0), 60);
        for (int p = 0; p < 30; p++) {
            int[] want = {2 * p, 2, 0, 58 - 2 * p};
            for (int what = 0; what < 4; what++) edges.is("piece " + p + ", " + what, b.piece(1, 2, p, what), want[what]);
        }
        edges.is("the thirty-first", b.piece(1, 2, 30, 0), NONE);
        pieces("a size below REACH that is none", Due.with("least 3;slips 1;", Due.words(1, 2, 3, 4, 8, 9), Due.words(4, 5, 6), Due.words(1, 2, 7, 4, 5, 6)), 2,
            new int[] {0, 4, 0, 0});
    }

    private static void fromTheFirstSource() {
        edges.says("A piece is FROM the first SOURCE with which it is a RUN, by its least j");
        BorrowedWords b = Due.with("", Due.words(9, 1, 2, 3, 4, 9, 1, 2, 3, 4), row(1, 5), row(5, 4), row(1, 8));
        edges.is("REACH is of another one", b.reach(3, 4, 0, 1), 1);
        pieces("smaller than REACH", b, 3, new int[] {0, 4, 0, 1}, new int[] {4, 4, 2, 0});
    }

    private static void pieceBounds() {
        edges.says("p = NONE how many pieces, else of the p-th: what = 0 i, 1 size, 2 FROM, 3 j; NONE: there is none such");
        BorrowedWords b = Due.with("least 2;", row(1, 2), row(3, 2), row(1, 4));
        int[] noPiece = {-2, 2, 3, 60, Integer.MIN_VALUE, Integer.MAX_VALUE};
        for (int p : noPiece) {
            for (int what = 0; what < 4; what++) edges.is("piece " + p + ", " + what, b.piece(2, 3, p, what), NONE);
        }
        int[] whats = Edges.beyond(0, 3);
        for (int what : whats) {
            edges.is("how many, whatever " + what, b.piece(2, 3, NONE, what), 2);
            edges.refused("what " + what + " of the first", Edges::few, o -> o.piece(1, 3, 0, what), OUTSIDE);
            edges.refused("what " + what + " of the last of a full one", Edges::full, o -> o.piece(9, 10, 0, what), OUTSIDE);
        }
        for (int x : Edges.strangers(3)) {
            edges.refused("text " + x, Edges::few, o -> o.piece(x, 3, 0, 0), UNKNOWN);
            edges.refused("how many of text " + x, Edges::few, o -> o.piece(x, 3, NONE, 0), UNKNOWN);
        }
    }

    private static void notInRightMarks() {
        edges.says("TAKEN and not in a MARK that is RIGHT (told by k or not): BORROWED");
        int[] text = joined(joined(Due.words(99), row(1, 6)), Due.words(98));
        int[][] marked = {{1, 6, 0}, {2, 6, 1}, {1, 5, 1}, {1, 1, 5}, {6, 6, 5}, {0, 6, 6}, {1, 7, 6}, {0, 0, 6}, {7, 7, 6}};
        for (int[] mark : marked) {
            BorrowedWords b = Due.with("", row(1, 6), text);
            b.mark(1, mark[0], mark[1], 0);
            edges.is("mark " + mark[0] + " to " + mark[1] + ", borrowed", b.judged(1, 2, 1), mark[2]);
            edges.is("mark " + mark[0] + " to " + mark[1] + ", taken", b.judged(1, 2, 0), 6);
        }
        BorrowedWords b = Due.with("", row(1, 6), row(1, 6), text);
        b.mark(2, 1, 6, NONE);
        edges.is("an open one", b.judged(2, 3, 1), 6);
        b.mark(2, 1, 3, 1);
        edges.is("right by a text that is known", b.judged(2, 2, 1), 3);
        edges.is("right by a text that is not known", b.judged(2, 1, 1), 3);
        b.mark(2, 3, 6, 0);
        edges.is("two marks over one another", b.judged(2, 3, 1), 0);
        BorrowedWords old = new BorrowedWords();
        Due.write(old, 0, 0, row(1, 4));
        Due.write(old, 0, 950, row(1, 4));
        Due.write(old, 0, 951, row(1, 4));
        old.mark(2, 0, 3, 0);
        edges.is("right by a text that is too old to be a source", old.judged(2, 3, 3), 1);
    }

    /** A text of so many words, the first of them taken, by these rules. */
    private static BorrowedWords taking(int taken, int words, String rule) {
        int own = words - taken;
        return Due.with("least 2;" + rule, row(1, taken), joined(row(1, taken), row(101, own)));
    }

    private static void shares() {
        edges.says("SHARE: BORROWED times 100 / WORDS (0, if there are none)");
        int[][] shares = {{60, 60, 100}, {59, 60, 98}, {30, 60, 50}, {29, 60, 48}, {2, 60, 3}, {2, 3, 66}, {2, 2, 100}, {3, 8, 37}};
        for (int[] share : shares) edges.is(share[0] + " of " + share[1], taking(share[0], share[1], "").judged(1, 2, 2), share[2]);
        BorrowedWords one = taking(2, 60, "");
        one.mark(1, 0, 0, 0);
        edges.is("one of sixty", one.judged(1, 2, 2), 1);
        one.mark(1, 1, 1, 0);
        edges.is("none of sixty", one.judged(1, 2, 2), 0);
        edges.is("no words", Due.with("", Due.words()).judged(0, 1, 2), 0);
        edges.is("no sources", Due.with("", row(1, 9)).judged(0, 1, 2), 0);
    }

    private static void ownAndCited() {
        edges.says("VERDICT: 0 OWN (none TAKEN), 1 CITED (TAKEN, none BORROWED)");
        String[] rules = {"", "light 0;heavy 0;", "light 100;heavy 100;", "light 0;heavy 100;", "light 100;heavy 0;"};
        for (String rule : rules) {
            BorrowedWords b = taking(4, 8, rule);
            edges.is("own by 0, " + rule, b.judged(1, 0, 3), 0);
            edges.is("own, no words, " + rule, Due.with(rule, Due.words()).judged(0, 1, 3), 0);
            b.mark(1, 0, 3, 0);
            edges.is("cited, " + rule, b.judged(1, 2, 3), 1);
            edges.is("own by 0, though marked, " + rule, b.judged(1, 0, 3), 0);
        }
    }

    private static void lightAndHeavy() {
        edges.says("2 LIGHT (SHARE up to light), 3 MIXED, 4 HEAVY (SHARE heavy or more; ahead of LIGHT)");
        edges.is("share 10, light 10", taking(2, 20, "").judged(1, 2, 3), 2);
        edges.is("share 11, light 10", taking(2, 18, "").judged(1, 2, 3), 3);
        edges.is("share 10, light 9", taking(2, 20, "light 9;").judged(1, 2, 3), 3);
        edges.is("share 10, light 11", taking(2, 20, "light 11;").judged(1, 2, 3), 2);
        edges.is("share 50, heavy 50", taking(5, 10, "").judged(1, 2, 3), 4);
        edges.is("share 49, heavy 50", taking(27, 55, "").judged(1, 2, 3), 3);
        edges.is("share 50, heavy 51", taking(5, 10, "heavy 51;").judged(1, 2, 3), 3);
        edges.is("share 50, heavy 49", taking(5, 10, "heavy 49;").judged(1, 2, 3), 4);
        edges.is("share 50, light 50, heavy 50", taking(5, 10, "light 50;heavy 50;").judged(1, 2, 3), 4);
        edges.is("share 50, light 50, heavy 51", taking(5, 10, "light 50;heavy 51;").judged(1, 2, 3), 2);
        edges.is("share 50, light 100, heavy 50", taking(5, 10, "light 100;heavy 50;").judged(1, 2, 3), 4);
        edges.is("share 100, light 100, heavy 100", taking(5, 5, "light 100;heavy 100;").judged(1, 2, 3), 4);
        edges.is("share 98, light 100, heavy 100", taking(59, 60, "light 100;heavy 100;").judged(1, 2, 3), 2);
        edges.is("share 98, light 97, heavy 99", taking(59, 60, "light 97;heavy 99;").judged(1, 2, 3), 3);
        edges.is("share 3, light 0, heavy 100", taking(2, 60, "light 0;heavy 100;").judged(1, 2, 3), 3);
        edges.is("share 3, light 100, heavy 0", taking(2, 60, "light 100;heavy 0;").judged(1, 2, 3), 4);
    }

    private static void judgedBounds() {
        edges.says("Of a TEXT AS KNOWN by k: what = 0 TAKEN, 1 BORROWED, 2 SHARE, 3 VERDICT. UNKNOWN, OUTSIDE");
        BorrowedWords b = taking(4, 10, "");
        int[] want = {4, 4, 40, 3};
        for (int what = 0; what < 4; what++) {
            edges.is("by all, " + what, b.judged(1, 2, what), want[what]);
            edges.is("by 0, " + what, b.judged(1, 0, what), 0);
        }
        for (int what : Edges.beyond(0, 3)) edges.refused("what " + what, Edges::few, o -> o.judged(1, 3, what), OUTSIDE);
        for (int x : Edges.strangers(3)) edges.refused("text " + x, Edges::few, o -> o.judged(x, 3, 0), UNKNOWN);
    }

    private static void fewestSources() {
        edges.says("THE FEWEST SOURCES: the least number of them that alone (all others left out) give as many TAKEN WORDS");
        edges.is("none taken", Due.with("", row(1, 3), row(1, 3)).fewest(1, 2), 0);
        edges.is("none known", Due.with("least 2;", row(1, 3), row(1, 3)).fewest(1, 0), 0);
        edges.is("one that has all", Due.with("least 2;", row(1, 2), row(3, 2), row(1, 4), row(1, 4)).fewest(3, 4), 0b0100);
        edges.is("as many words, by more pieces", Due.with("least 2;", row(1, 4), Due.words(3, 4, 1, 2), row(1, 4)).fewest(2, 3), 0b01);
        edges.is("as many words, not the same ones", Due.with("least 3;", row(3, 3), row(1, 3), row(1, 5)).fewest(2, 3), 0b01);
        BorrowedWords nine = new BorrowedWords();
        Due.rule(nine, "least 2;", 0);
        nine.text(0, 999);
        for (int y = 1; y < 10; y++) {
            Due.write(nine, 0, 500, row(2 * y, 2));
            Due.add(nine, 0, row(2 * y, 2));
        }
        for (int k = 0; k <= 10; k++) edges.is("all that are known by " + k, nine.fewest(0, k), (1 << k) - 1 & ~1);
        for (int x : Edges.strangers(3)) edges.refused("text " + x, Edges::few, o -> o.fewest(x, 3), UNKNOWN);
    }

    private static void leastSet() {
        edges.says("of like ones the least SET");
        edges.is("one of two", Due.with("least 2;", row(1, 2), row(1, 2), row(1, 2)).fewest(2, 3), 0b01);
        edges.is("1 and 2 ahead of 0 and 3",
            Due.with("least 2;", row(1, 2), row(1, 4), row(5, 2), row(3, 4), row(1, 6)).fewest(4, 5), 0b0110);
        edges.is("3 alone ahead of 0 and 1", Due.with("least 2;", row(1, 2), row(3, 2), row(9, 2), row(1, 4), row(1, 4)).fewest(4, 5), 0b1000);
        BorrowedWords last = new BorrowedWords();
        Due.rule(last, "least 2;", 0);
        Due.write(last, 0, 9, row(1, 4));
        for (int y = 1; y < 9; y++) Due.write(last, 0, 8, row(y % 2 == 0 ? 1 : 3, 2));
        edges.is("1 and 2", last.fewest(0, 9), 0b110);
        Due.write(last, 0, 8, row(1, 4));
        edges.is("the last one alone", last.fewest(0, 10), 0b1000000000);
    }

    private static void hangsOn() {
        edges.says("IT HANGS ON a SOURCE, if without that one alone VERDICT is another one");
        edges.is("on the one source", Due.with("least 2;", row(1, 2), row(1, 2)).hangs(1, 2), 0b01);
        edges.is("on none of two like ones", Due.with("least 2;", row(1, 2), row(1, 2), row(1, 2)).hangs(2, 3), 0);
        edges.is("on the one that is known", Due.with("least 2;", row(1, 2), row(1, 2), row(1, 2)).hangs(2, 1), 0b01);
        edges.is("own", Due.with("", row(1, 3), row(1, 3)).hangs(1, 2), 0);
        edges.is("none known", Due.with("least 2;", row(1, 2), row(1, 2)).hangs(1, 0), 0);
        int[] ten = joined(row(1, 6), row(101, 4));
        edges.is("60 to 30 and 30: heavy to mixed", Due.with("least 2;", row(1, 3), row(4, 3), ten).hangs(2, 3), 0b11);
        edges.is("60 to 40 and 20, heavy 40", Due.with("least 2;heavy 40;", row(1, 4), row(5, 2), ten).hangs(2, 3), 0b01);
        edges.is("60 to 40 and 20, heavy 41", Due.with("least 2;heavy 41;", row(1, 4), row(5, 2), ten).hangs(2, 3), 0b11);
        edges.is("60 to 40 and 20, light 20, heavy 100", Due.with("least 2;light 20;heavy 100;", row(1, 4), row(5, 2), ten).hangs(2, 3), 0b01);
        edges.is("60 to 40 and 20, light 19, heavy 100", Due.with("least 2;light 19;heavy 100;", row(1, 4), row(5, 2), ten).hangs(2, 3), 0);
        BorrowedWords last = new BorrowedWords();
        Due.rule(last, "least 2;", 0);
        Due.write(last, 0, 9, row(1, 4));
        for (int y = 1; y < 9; y++) Due.write(last, 0, 8, row(90, 2));
        Due.write(last, 0, 8, row(1, 4));
        edges.is("on the last one", last.hangs(0, 10), 0b1000000000);
        edges.is("not known yet", last.hangs(0, 9), 0);
        for (int x : Edges.strangers(3)) edges.refused("text " + x, Edges::few, o -> o.hangs(x, 3), UNKNOWN);
    }

    private static void textWithoutWords() {
        edges.says("A TEXT without WORDS");
        BorrowedWords b = Due.with("least 2;", row(1, 4), Due.words(), Due.words());
        edges.is("its sources", b.sources(2, 3), 0b011);
        edges.is("its pieces", b.piece(2, 3, NONE, 0), 0);
        for (int what = 0; what < 4; what++) {
            edges.is("its first piece, " + what, b.piece(2, 3, 0, what), NONE);
            edges.is("judged, " + what, b.judged(2, 3, what), 0);
        }
        edges.is("the fewest sources", b.fewest(2, 3), 0);
        edges.is("it hangs on none", b.hangs(2, 3), 0);
        for (int what = 0; what < 3; what++) {
            int asked = what;
            edges.refused("it has no place 0, " + what, Edges::few, o -> o.reach(2, 3, 0, asked), OUTSIDE);
        }
    }

    private static void sourceWithoutWords() {
        edges.says("of TEXTS 0 to k - 1 those that are OLDER than x, and whose DAY is not free DAYS or more before x's: SOURCES");
        BorrowedWords b = Due.with("least 2;", Due.words(), Due.words(1), row(1, 2));
        edges.is("it is a source", b.sources(2, 3), 0b011);
        edges.is("nothing is taken from it", b.judged(2, 3, 0), 0);
        edges.is("no reach into it", b.reach(2, 3, 0, 0), 0);
        Due.add(b, 1, 2);
        edges.is("from the other one", b.reach(2, 3, 0, 1), 1);
        edges.is("the fewest", b.fewest(2, 3), 0b010);
        edges.is("hangs", b.hangs(2, 3), 0b010);
    }

    private static void refusalsInOrder() {
        edges.says("REFUSALS, of several the first in this order");
        edges.refused("sources", Edges::few, o -> o.sources(3, 4), UNKNOWN);
        edges.refused("reach: UNKNOWN ahead of k", Edges::few, o -> o.reach(3, -1, 0, 0), UNKNOWN);
        edges.refused("reach: UNKNOWN ahead of i", Edges::few, o -> o.reach(-1, 0, -1, 0), UNKNOWN);
        edges.refused("reach: UNKNOWN ahead of what", Edges::few, o -> o.reach(3, 0, 0, 3), UNKNOWN);
        edges.refused("reach: OUTSIDE ahead of none", Edges::few, o -> o.reach(1, 0, 0, 3), OUTSIDE);
        edges.refused("piece: UNKNOWN ahead of k", Edges::few, o -> o.piece(3, 4, 0, 0), UNKNOWN);
        edges.refused("piece: UNKNOWN ahead of what", Edges::few, o -> o.piece(3, 0, 0, 4), UNKNOWN);
        edges.refused("piece: how many, UNKNOWN ahead of k", Edges::few, o -> o.piece(3, 4, NONE, 4), UNKNOWN);
        edges.refused("judged: UNKNOWN ahead of k", Edges::few, o -> o.judged(3, 4, 0), UNKNOWN);
        edges.refused("judged: UNKNOWN ahead of what", Edges::few, o -> o.judged(3, 0, 4), UNKNOWN);
        edges.refused("fewest", Edges::few, o -> o.fewest(3, 4), UNKNOWN);
        edges.refused("hangs", Edges::few, o -> o.hangs(-1, -1), UNKNOWN);
        for (int x : Edges.strangers(3)) edges.refused("sources of " + x, Edges::few, o -> o.sources(x, 0), UNKNOWN);
        BorrowedWords none = new BorrowedWords();
        edges.is("no texts, sources", none.sources(0, 0), UNKNOWN);
        edges.is("no texts, reach", none.reach(0, 0, 0, 0), UNKNOWN);
        edges.is("no texts, piece", none.piece(0, 0, NONE, 0), UNKNOWN);
        edges.is("no texts, judged", none.judged(0, 0, 0), UNKNOWN);
        edges.is("no texts, fewest", none.fewest(0, 0), UNKNOWN);
        edges.is("no texts, hangs", none.hangs(0, 0), UNKNOWN);
    }
}
