/** The boundary cases of part 4, promises 26 to 30: each sentence that names one has a test of its own. */
final class EdgesLikenessTest {
    private static final int NONE = Due.NONE, UNKNOWN = Due.UNKNOWN, OUTSIDE = Due.OUTSIDE;
    private static final int[] NO_ROW = Edges.beyond(1, 5);
    private static final Edges edges = new Edges();

    public static void main(String[] args) {
        rowSizes();
        rowsOfFewWords();
        rowsOnce();
        wordsAsTheyAre();
        likenessWithoutRows();
        leastTerms();
        likenessBounds();
        nearestOfLikeOnes();
        nearestBounds();
        hundredths();
        othersBetween();
        familyBounds();
        sameSentences();
        keptOnce();
        movedFewest();
        sixtySentences();
        movedWithoutWords();
        movedBounds();
        edges.end();
    }

    private static void rowSizes() {
        edges.says("A ROW of r WORDS side by side (r 1 .. 5; by WORDS as they are)");
        BorrowedWords b = Due.with("", Due.words(1, 2, 3, 4, 5, 6));
        for (int r = 1; r <= 5; r++) edges.is("rows of " + r, b.rows(0, r), 7 - r);
        for (int r : NO_ROW) {
            edges.refused("rows of " + r, Edges::few, o -> o.rows(0, r), OUTSIDE);
            edges.refused("rows of " + r + " of a full text", Edges::full, o -> o.rows(9, r), OUTSIDE);
        }
        for (int x : Edges.strangers(3)) {
            edges.refused("rows of text " + x, Edges::few, o -> o.rows(x, 1), UNKNOWN);
            edges.refused("rows of text " + x + ": UNKNOWN ahead of OUTSIDE", Edges::few, o -> o.rows(x, 0), UNKNOWN);
        }
        edges.is("no texts", new BorrowedWords().rows(0, 1), UNKNOWN);
    }

    private static void rowsOfFewWords() {
        edges.says("ROWS of r WORDS of a TEXT");
        for (int size = 0; size <= 6; size++) {
            BorrowedWords b = new BorrowedWords();
            b.text(0, 0);
            for (int w = 1; w <= size; w++) b.word(0, w);
            for (int r = 1; r <= 5; r++) edges.is(size + " words by " + r, b.rows(0, r), Math.max(0, size - r + 1));
        }
        BorrowedWords b = new BorrowedWords();
        b.text(0, 0);
        for (int w = 1; w <= 60; w++) b.word(0, 201 - w);
        for (int r = 1; r <= 5; r++) edges.is("sixty words by " + r, b.rows(0, r), 61 - r);
    }

    private static void rowsOnce() {
        edges.says("ROWS of a TEXT, each once");
        BorrowedWords b = new BorrowedWords();
        b.text(0, 0);
        b.word(0, 200);
        for (int n = 1; n < 32; n *= 2) b.copy(0, 0, 0, n - 1);
        b.copy(0, 0, 0, 27);
        for (int r = 1; r <= 5; r++) edges.is("sixty times one word by " + r, b.rows(0, r), 1);
        BorrowedWords six = Edges.full();
        for (int r = 1; r <= 5; r++) edges.is("ten times six words by " + r, six.rows(9, r), 6);
        edges.is("rows go over stops", Due.with("", Due.words(1, 0, 2, 0)).rows(0, 2), 1);
    }

    private static void wordsAsTheyAre() {
        edges.says("by WORDS as they are");
        BorrowedWords b = Due.with("mean yes;", Due.words(1, 2), Due.words(2, 1));
        b.same(1, 2);
        edges.is("rows", b.rows(0, 1), 2);
        edges.is("likeness by two, upper", b.likeness(0, 1, 2, 0), 0);
        BorrowedWords far = Due.with("", Due.words(1, 1, 1, 1, 2, 9, 200, 200, 200, 200, 200, 8, 1, 1, 1, 2, 1));
        edges.is("rows of five with the first and the last words", far.rows(0, 5), 13);
    }

    private static void like(String name, BorrowedWords b, int r, int upper, int lower) {
        edges.is(name + ", upper", b.likeness(0, 1, r, 0), upper);
        edges.is(name + ", lower", b.likeness(0, 1, r, 1), lower);
        edges.is(name + ", turned round, upper", b.likeness(1, 0, r, 0), upper);
        edges.is(name + ", turned round, lower", b.likeness(1, 0, r, 1), lower);
    }

    private static void likenessWithoutRows() {
        edges.says("LIKENESS of two TEXTS by r: ROWS in both by ROWS in one or both (0 by 1, if there are none)");
        like("no words", Due.with("", Due.words(), Due.words()), 1, 0, 1);
        like("fewer words than a row", Due.with("", Due.words(1, 2, 3, 4), Due.words(1, 2, 3, 4)), 5, 0, 1);
        like("just a row", Due.with("", Due.words(1, 2, 3, 4, 5), Due.words(1, 2, 3, 4, 5)), 5, 1, 1);
        like("one without words", Due.with("", Due.words(1, 2, 3), Due.words()), 1, 0, 1);
        like("nothing in both", Due.with("", Due.words(1, 2, 3), Due.words(4, 5)), 1, 0, 1);
        BorrowedWords b = Due.with("", Due.words(1, 2), Due.words());
        edges.is("with itself, upper", b.likeness(0, 0, 2, 0), 1);
        edges.is("with itself, lower", b.likeness(0, 0, 2, 1), 1);
        edges.is("with itself, no rows, upper", b.likeness(0, 0, 3, 0), 0);
        edges.is("with itself, no rows, lower", b.likeness(0, 0, 3, 1), 1);
        edges.is("with itself, no words, upper", b.likeness(1, 1, 1, 0), 0);
        edges.is("with itself, no words, lower", b.likeness(1, 1, 1, 1), 1);
    }

    private static void leastTerms() {
        edges.says("fractions are in least terms, the lower number above 0");
        like("two by four", Due.with("", Due.words(1, 2, 3), Due.words(2, 3, 4)), 1, 1, 2);
        like("two by six", Due.with("", Due.words(1, 2, 3, 4), Due.words(3, 4, 5, 6)), 1, 1, 3);
        like("four by six", Due.with("", Due.words(1, 2, 3, 4), Due.words(1, 2, 3, 4, 5, 6)), 1, 2, 3);
        like("three by three", Due.with("", Due.words(1, 2, 3), Due.words(3, 2, 1)), 1, 1, 1);
        like("three by four", Due.with("", Due.words(1, 2, 3), Due.words(1, 2, 3, 4)), 1, 3, 4);
        BorrowedWords b = new BorrowedWords();
        b.text(0, 0);
        b.text(0, 0);
        for (int w = 1; w <= 60; w++) b.word(0, w);
        for (int w = 41; w <= 100; w++) b.word(1, w);
        like("twenty by a hundred", b, 1, 1, 5);
        like("sixteen by ninety-six", b, 5, 1, 6);
        BorrowedWords apart = new BorrowedWords();
        apart.text(0, 0);
        apart.text(0, 0);
        for (int w = 1; w <= 60; w++) apart.word(0, w);
        for (int w = 60; w <= 119; w++) apart.word(1, w);
        like("one by 119", apart, 1, 1, 119);
    }

    private static void likenessBounds() {
        edges.says("LIKENESS by r: what = 0 the upper, 1 the lower number. UNKNOWN, OUTSIDE");
        for (int r : NO_ROW) edges.refused("r " + r, Edges::few, o -> o.likeness(0, 1, r, 0), OUTSIDE);
        for (int what : Edges.beyond(0, 1)) edges.refused("what " + what, Edges::few, o -> o.likeness(0, 1, 1, what), OUTSIDE);
        for (int x : Edges.strangers(3)) {
            edges.refused("text " + x, Edges::few, o -> o.likeness(x, 0, 1, 0), UNKNOWN);
            edges.refused("with text " + x, Edges::few, o -> o.likeness(0, x, 1, 0), UNKNOWN);
            edges.refused("text " + x + ": UNKNOWN ahead of OUTSIDE, r", Edges::few, o -> o.likeness(x, 0, 6, 0), UNKNOWN);
            edges.refused("with text " + x + ": UNKNOWN ahead of OUTSIDE, what", Edges::few, o -> o.likeness(0, x, 1, 2), UNKNOWN);
        }
        edges.is("no texts", new BorrowedWords().likeness(0, 0, 1, 0), UNKNOWN);
    }

    private static void nearestOfLikeOnes() {
        edges.says("NEAREST to x: the TEXT with the greatest LIKENESS (of like ones the least number; not x)");
        BorrowedWords none = Due.with("", Due.words(), Due.words(), Due.words());
        int[] least = {1, 0, 0};
        for (int x = 0; x < 3; x++) edges.is("no words, to " + x, none.nearest(x, 1), least[x]);
        BorrowedWords b = Due.with("", Due.words(9), Due.words(1, 2, 3), Due.words(1, 2), Due.words(2, 1), Due.words(1, 2, 3));
        edges.is("not itself, but one like it", b.nearest(1, 1), 4);
        edges.is("of like ones the least", b.nearest(2, 1), 3);
        edges.is("turned round", b.nearest(3, 1), 2);
        edges.is("by two", b.nearest(2, 2), 1);
        edges.is("by three, no rows of its own", b.nearest(2, 3), 0);
        BorrowedWords close = new BorrowedWords();
        for (int x = 0; x < 3; x++) close.text(0, 0);
        for (int w = 1; w <= 60; w++) close.word(0, w);
        close.copy(1, 0, 0, 57);
        close.copy(2, 0, 0, 58);
        edges.is("59 sixtieths ahead of 58", close.nearest(0, 1), 2);
        BorrowedWords full = Edges.full();
        edges.is("ten like ones, to 0", full.nearest(0, 5), 1);
        edges.is("ten like ones, to 9", full.nearest(9, 5), 0);
    }

    private static void nearestBounds() {
        edges.says("NEAREST by r; NONE: there is no other TEXT. UNKNOWN, OUTSIDE");
        BorrowedWords one = Due.with("", Due.words(1, 2));
        for (int r = 1; r <= 5; r++) edges.is("no other by " + r, one.nearest(0, r), NONE);
        one.text(0, 0);
        edges.is("another one", one.nearest(0, 1), 1);
        for (int r : NO_ROW) {
            edges.refused("r " + r, Edges::few, o -> o.nearest(0, r), OUTSIDE);
            edges.refused("OUTSIDE ahead of NONE, r " + r, () -> Due.with("", Due.words(1)), o -> o.nearest(0, r), OUTSIDE);
        }
        for (int x : Edges.strangers(3)) {
            edges.refused("text " + x, Edges::few, o -> o.nearest(x, 1), UNKNOWN);
            edges.refused("text " + x + ": UNKNOWN ahead of OUTSIDE", Edges::few, o -> o.nearest(x, 0), UNKNOWN);
        }
        edges.is("no texts", new BorrowedWords().nearest(0, 1), UNKNOWN);
    }

    /** Whether text 1 is of the family of text 0 by one word and u. */
    private static void kin(String name, BorrowedWords b, int u, boolean want) {
        edges.is(name + " by " + u, b.family(1, 1, u), want ? 0 : 1);
    }

    private static void hundredths() {
        edges.says("FAMILIES by r, u: TEXTS whose LIKENESS is u hundredths or more");
        int[][] fractions = {{1, 2, 50}, {1, 3, 33}, {2, 3, 66}, {1, 4, 25}, {3, 4, 75}, {1, 60, 1}, {59, 60, 98}, {1, 51, 1}, {1, 50, 2}};
        for (int[] f : fractions) {
            BorrowedWords b = new BorrowedWords();
            b.text(0, 0);
            b.text(0, 0);
            for (int w = 1; w <= f[1]; w++) b.word(0, w);
            b.copy(1, 0, 0, f[0] - 1);
            kin(f[0] + " by " + f[1], b, f[2], true);
            kin(f[0] + " by " + f[1], b, f[2] + 1, false);
        }
        BorrowedWords alike = Due.with("", Due.words(1, 2), Due.words(2, 1));
        kin("alike", alike, 100, true);
        kin("alike", alike, 0, true);
        BorrowedWords far = new BorrowedWords();
        far.text(0, 0);
        far.text(0, 0);
        for (int w = 1; w <= 60; w++) far.word(0, w);
        for (int w = 60; w <= 119; w++) far.word(1, w);
        kin("one by 119", far, 1, false);
        kin("one by 119", far, 0, true);
        BorrowedWords none = Due.with("", Due.words(), Due.words());
        kin("no words", none, 0, true);
        kin("no words", none, 1, false);
        kin("no words", none, 100, false);
    }

    private static void othersBetween() {
        edges.says("straight or by others between; each has the number of its least TEXT");
        BorrowedWords b = new BorrowedWords();
        for (int x = 0; x < 10; x++) Due.write(b, 0, 0, 10 - x, 11 - x);
        for (int x = 0; x < 10; x++) {
            edges.is("a chain of ten, " + x, b.family(x, 1, 33), 0);
            edges.is("none is a chain, " + x, b.family(x, 1, 34), x);
            edges.is("by two, " + x, b.family(x, 2, 1), x);
            edges.is("by two and 0, " + x, b.family(x, 2, 0), 0);
        }
        BorrowedWords mixed = Due.with("", Due.words(1), Due.words(2), Due.words(3), Due.words(2, 4), Due.words(4, 3));
        int[] want = {0, 1, 1, 1, 1};
        for (int x = 0; x < 5; x++) edges.is("joined by the last, " + x, mixed.family(x, 1, 33), want[x]);
        BorrowedWords full = Edges.full();
        for (int x = 0; x < 10; x++) edges.is("ten like ones, " + x, full.family(x, 5, 100), 0);
    }

    private static void familyBounds() {
        edges.says("The FAMILY of a TEXT by r and u (0 .. 100). UNKNOWN, OUTSIDE");
        for (int u : Edges.beyond(0, 100)) edges.refused("u " + u, Edges::few, o -> o.family(0, 1, u), OUTSIDE);
        for (int r : NO_ROW) edges.refused("r " + r, Edges::few, o -> o.family(0, r, 50), OUTSIDE);
        for (int x : Edges.strangers(3)) {
            edges.refused("text " + x, Edges::few, o -> o.family(x, 1, 50), UNKNOWN);
            edges.refused("text " + x + ": UNKNOWN ahead of OUTSIDE, r", Edges::few, o -> o.family(x, 0, 50), UNKNOWN);
            edges.refused("text " + x + ": UNKNOWN ahead of OUTSIDE, u", Edges::few, o -> o.family(x, 1, 101), UNKNOWN);
        }
        BorrowedWords one = Due.with("", Due.words(1));
        edges.is("no other, 0", one.family(0, 1, 0), 0);
        edges.is("no other, 100", one.family(0, 5, 100), 0);
        edges.is("no texts", new BorrowedWords().family(0, 1, 0), UNKNOWN);
    }

    private static void pairs(String name, BorrowedWords b, int kept, int moved, int fresh) {
        edges.is(name + ", kept", b.moved(0, 1, 0), kept);
        edges.is(name + ", moved", b.moved(0, 1, 1), moved);
        edges.is(name + ", new", b.moved(0, 1, 2), fresh);
    }

    private static void sameSentences() {
        edges.says("SENTENCES of x and y are THE SAME, if their WORDS are, in order");
        pairs("a word", Due.with("", Due.words(1, 0), Due.words(1, 0)), 1, 0, 0);
        pairs("open and with a stop", Due.with("", Due.words(1, 2), Due.words(1, 2, 0)), 1, 0, 0);
        pairs("open in both", Due.with("", Due.words(1, 2), Due.words(1, 2)), 1, 0, 0);
        pairs("one word less", Due.with("", Due.words(1, 2), Due.words(1, 0)), 0, 0, 1);
        pairs("one word more", Due.with("", Due.words(1, 0), Due.words(1, 2, 0)), 0, 0, 1);
        pairs("turned round", Due.with("", Due.words(1, 2, 0), Due.words(2, 1, 0)), 0, 0, 1);
        pairs("the same words by other stops", Due.with("", Due.words(1, 2, 0, 3), Due.words(1, 0, 2, 3)), 0, 0, 2);
        BorrowedWords mean = Due.with("mean yes;", Due.words(1, 0), Due.words(2, 0));
        mean.same(1, 2);
        pairs("by meaning", mean, 0, 0, 1);
        BorrowedWords sixty = new BorrowedWords();
        sixty.text(0, 0);
        sixty.text(0, 0);
        for (int w = 1; w <= 60; w++) sixty.word(0, w);
        sixty.copy(1, 0, 0, 59);
        pairs("one of sixty words", sixty, 1, 0, 0);
        sixty.stop(1);
        pairs("one of sixty words, with a stop", sixty, 1, 0, 0);
    }

    private static void keptOnce() {
        edges.says("each SENTENCE in one pair at most, each of x with the first of y that is free yet");
        pairs("two with one", Due.with("", Due.words(1, 0, 1, 0), Due.words(1, 0)), 1, 0, 1);
        pairs("one with two", Due.with("", Due.words(1, 0), Due.words(1, 0, 1, 0)), 1, 0, 0);
        pairs("two with two", Due.with("", Due.words(1, 0, 1, 0), Due.words(1, 0, 1, 0)), 2, 0, 0);
        pairs("with the first, so that one has moved", Due.with("", Due.words(2, 0, 1, 0), Due.words(1, 0, 2, 0, 1, 0)), 2, 1, 0);
        pairs("with the next that is free", Due.with("", Due.words(1, 0, 2, 0, 1, 0), Due.words(1, 0, 2, 0, 1, 0)), 3, 0, 0);
    }

    private static void movedFewest() {
        edges.says("MOVED: how many of these pairs have to go so that the others are in one order in both, the fewest");
        pairs("one pair", Due.with("", Due.words(1, 0), Due.words(1, 0)), 1, 0, 0);
        pairs("two in order", Due.with("", Due.words(1, 0, 2, 0), Due.words(1, 0, 2, 0)), 2, 0, 0);
        pairs("two turned round", Due.with("", Due.words(1, 0, 2, 0), Due.words(2, 0, 1, 0)), 2, 1, 0);
        pairs("the first to the end", Due.with("", Due.words(1, 0, 2, 0, 3, 0, 4, 0), Due.words(2, 0, 3, 0, 4, 0, 1, 0)), 4, 1, 0);
        pairs("all turned round", Due.with("", Due.words(1, 0, 2, 0, 3, 0, 4, 0), Due.words(4, 0, 3, 0, 2, 0, 1, 0)), 4, 3, 0);
        pairs("new ones between", Due.with("", Due.words(1, 0, 9, 0, 2, 0), Due.words(8, 0, 1, 0, 7, 0, 2, 0)), 2, 0, 1);
        pairs("two and two", Due.with("", Due.words(1, 0, 2, 0, 3, 0, 4, 0), Due.words(3, 0, 4, 0, 1, 0, 2, 0)), 4, 2, 0);
    }

    private static void sixtySentences() {
        edges.says("KEPT: pairs of SENTENCES that are THE SAME");
        BorrowedWords b = new BorrowedWords();
        b.text(0, 0);
        b.text(0, 0);
        b.text(0, 0);
        for (int w = 1; w <= 60; w++) Due.add(b, 0, w, 0);
        for (int w = 60; w >= 1; w--) Due.add(b, 1, w, 0);
        pairs("sixty turned round", b, 60, 59, 0);
        edges.is("sixty new ones", b.moved(0, 2, 2), 60);
        b.copy(2, 0, 0, 59);
        edges.is("sixty kept", b.moved(0, 2, 0), 60);
        edges.is("sixty, none moved", b.moved(0, 2, 1), 0);
        edges.is("sixty, none new", b.moved(0, 2, 2), 0);
        BorrowedWords like = new BorrowedWords();
        like.text(0, 0);
        like.text(0, 0);
        Due.add(like, 0, 1, 0);
        for (int n = 1; n < 32; n *= 2) like.copy(0, 0, 0, n - 1);
        like.copy(0, 0, 0, 27);
        like.copy(1, 0, 0, 58);
        pairs("sixty with 59 like ones", like, 59, 0, 1);
        BorrowedWords others = new BorrowedWords();
        others.text(0, 0);
        others.text(0, 0);
        for (int w = 1; w <= 60; w++) {
            Due.add(others, 0, w, 0);
            Due.add(others, 1, 60 + w, 0);
        }
        pairs("sixty and sixty others", others, 0, 0, 60);
    }

    private static void movedWithoutWords() {
        edges.says("NEW: SENTENCES of x without a pair");
        pairs("no words in both", Due.with("", Due.words(), Due.words()), 0, 0, 0);
        pairs("no words in x", Due.with("", Due.words(), Due.words(1, 0)), 0, 0, 0);
        pairs("no words in y", Due.with("", Due.words(1, 0, 2), Due.words()), 0, 0, 2);
        BorrowedWords b = Due.with("", Due.words(1, 0, 2, 0, 1), Due.words());
        edges.is("with itself, kept", b.moved(0, 0, 0), 3);
        edges.is("with itself, moved", b.moved(0, 0, 1), 0);
        edges.is("with itself, new", b.moved(0, 0, 2), 0);
        edges.is("with itself, no words", b.moved(1, 1, 0) + b.moved(1, 1, 1) + b.moved(1, 1, 2), 0);
    }

    private static void movedBounds() {
        edges.says("SENTENCES of x and y: what = 0 KEPT, 1 MOVED, 2 NEW. UNKNOWN, OUTSIDE");
        for (int what : Edges.beyond(0, 2)) edges.refused("what " + what, Edges::few, o -> o.moved(0, 1, what), OUTSIDE);
        for (int x : Edges.strangers(3)) {
            edges.refused("text " + x, Edges::few, o -> o.moved(x, 0, 0), UNKNOWN);
            edges.refused("with text " + x, Edges::few, o -> o.moved(0, x, 0), UNKNOWN);
            edges.refused("text " + x + ": UNKNOWN ahead of OUTSIDE", Edges::few, o -> o.moved(x, 0, 3), UNKNOWN);
            edges.refused("with text " + x + ": UNKNOWN ahead of OUTSIDE", Edges::few, o -> o.moved(0, x, -1), UNKNOWN);
        }
        edges.is("no texts", new BorrowedWords().moved(0, 0, 0), UNKNOWN);
    }
}
