/** The boundary cases of part 4, promises 23 to 25: each sentence that names one has a test of its own. */
final class EdgesFirstTest {
    private static final int UNKNOWN = Due.UNKNOWN, OUTSIDE = Due.OUTSIDE;
    private static final Edges edges = new Edges();

    public static void main(String[] args) {
        itself();
        placeThere();
        nineSteps();
        ownRules();
        goesByOrEnds();
        notItself();
        sprungOfAll();
        firstBounds();
        passedBounds();
        sprungBounds();
        edges.end();
    }

    private static void asks(BorrowedWords b, int x, int i, int text, int place, int steps) {
        String of = " of word " + i + " of " + x;
        edges.is("text" + of, b.first(x, i, 0), text);
        edges.is("place" + of, b.first(x, i, 1), place);
        edges.is("steps" + of, b.first(x, i, 2), steps);
    }

    private static void itself() {
        edges.says("FIRST of WORD i of a TEXT x (all as known, each TEXT by its own RULES): if it is not TAKEN, itself");
        BorrowedWords b = Due.with("least 2;", Due.words(1, 2, 3), Due.words(9, 1, 2, 8));
        asks(b, 0, 0, 0, 0, 0);
        asks(b, 0, 2, 0, 2, 0);
        asks(b, 1, 0, 1, 0, 0);
        asks(b, 1, 3, 1, 3, 0);
        BorrowedWords younger = new BorrowedWords();
        Due.rule(younger, "least 2;", 0);
        Due.write(younger, 0, 5, 1, 2);
        Due.write(younger, 0, 4, 1, 2);
        asks(younger, 0, 1, 1, 1, 1);
        asks(younger, 1, 1, 1, 1, 0);
    }

    private static void placeThere() {
        edges.says("else WORD i - p + j of what its piece is FROM (p the piece's i, j its place there): FIRST of that");
        BorrowedWords b = Due.with("least 2;", Due.words(7, 8, 1, 2, 3), Due.words(9, 1, 2, 3, 6));
        asks(b, 1, 1, 0, 2, 1);
        asks(b, 1, 2, 0, 3, 1);
        asks(b, 1, 3, 0, 4, 1);
        BorrowedWords ends = new BorrowedWords();
        Due.rule(ends, "least 2;", 0);
        ends.text(0, 0);
        ends.text(0, 1);
        for (int w = 1; w <= 60; w++) ends.word(0, w);
        Due.add(ends, 1, 59, 60);
        ends.copy(1, 0, 0, 57);
        asks(ends, 1, 0, 0, 58, 1);
        asks(ends, 1, 1, 0, 59, 1);
        asks(ends, 1, 2, 0, 0, 1);
        asks(ends, 1, 59, 0, 57, 1);
        BorrowedWords slipped = Due.with("least 2;slips 1;", Due.words(1, 2, 3), Due.words(1, 9, 3));
        asks(slipped, 1, 1, 0, 1, 1);
    }

    /** Text x is of day 9 - x and may take from the day ahead alone, so that a word goes by all ten texts. */
    private static BorrowedWords tenInARow() {
        BorrowedWords b = new BorrowedWords();
        Due.rule(b, "least 2;free 2;", 0);
        for (int x = 0; x < 10; x++) Due.write(b, x, 9 - x, 1, 2);
        return b;
    }

    private static void nineSteps() {
        edges.says("STEPS: how many there were");
        BorrowedWords b = tenInARow();
        for (int x = 0; x < 10; x++) {
            asks(b, x, 0, 9, 0, 9 - x);
            asks(b, x, 1, 9, 1, 9 - x);
        }
    }

    private static void ownRules() {
        edges.says("(all as known, each TEXT by its own RULES)");
        BorrowedWords b = Due.with("", Due.words(1, 2, 3, 4), Due.words(1, 2, 3, 4), Due.words(1, 2, 3, 4));
        Due.rule(b, "free 2;", 2);
        asks(b, 2, 0, 0, 0, 2);
        Due.rule(b, "least 5;", 1);
        asks(b, 2, 0, 2, 0, 0);
        Due.rule(b, "least 4;", 2);
        asks(b, 2, 3, 1, 3, 1);
        asks(b, 1, 3, 1, 3, 0);
    }

    private static void goesByOrEnds() {
        edges.says("PASSED ON by a TEXT y to x: WORDS of x whose way to FIRST goes by y (or ends there; not x itself)");
        BorrowedWords b = tenInARow();
        for (int x = 0; x < 10; x++) {
            for (int y = 0; y < 10; y++) {
                if (x != y) edges.is("by " + y + " to " + x, b.passed(x, y), y > x ? 2 : 0);
            }
        }
        BorrowedWords part = Due.with("least 2;", Due.words(1, 2), Due.words(1, 2, 3, 4), Due.words(9, 2, 3, 4, 9));
        edges.is("three by the one between", part.passed(2, 1), 3);
        edges.is("one of them ends further", part.passed(2, 0), 1);
        edges.is("none to the first", part.passed(0, 1), 0);
        BorrowedWords full = Edges.full();
        edges.is("sixty", full.passed(9, 0), 60);
        edges.is("none by those between", full.passed(9, 8), 0);
    }

    private static void notItself() {
        edges.says("How many WORDS y PASSED ON to x. UNKNOWN, OUTSIDE (alike)");
        edges.refused("alike", Edges::few, o -> o.passed(0, 0), OUTSIDE);
        edges.refused("alike, without words", Edges::few, o -> o.passed(2, 2), OUTSIDE);
        edges.refused("alike, the last of a full object", Edges::full, o -> o.passed(9, 9), OUTSIDE);
    }

    private static void sprungOfAll() {
        edges.says("How many WORDS of all TEXTS have their FIRST in a TEXT (its own, too). UNKNOWN");
        BorrowedWords b = tenInARow();
        for (int x = 0; x < 10; x++) edges.is("sprung from " + x, b.sprung(x), x == 9 ? 20 : 0);
        BorrowedWords full = Edges.full();
        edges.is("all six hundred", full.sprung(0), 600);
        edges.is("none", full.sprung(9), 0);
        BorrowedWords own = Due.with("", Due.words(1), Due.words(1), Due.words());
        edges.is("its own", own.sprung(0), 1);
        edges.is("its own, though the other has the word", own.sprung(1), 1);
        edges.is("of one without words", own.sprung(2), 0);
    }

    private static void firstBounds() {
        edges.says("FIRST of WORD i of a TEXT (all known): what = 0 the TEXT, 1 the place, 2 STEPS. UNKNOWN, OUTSIDE (i, too)");
        for (int i : Edges.beyond(0, 4)) edges.refused("word " + i, Edges::few, o -> o.first(0, i, 0), OUTSIDE);
        for (int i : Edges.beyond(0, 59)) edges.refused("word " + i + " of sixty", Edges::full, o -> o.first(9, i, 0), OUTSIDE);
        edges.refused("word 0 of none", Edges::few, o -> o.first(2, 0, 0), OUTSIDE);
        for (int what : Edges.beyond(0, 2)) edges.refused("what " + what, Edges::few, o -> o.first(0, 0, what), OUTSIDE);
        for (int x : Edges.strangers(3)) {
            edges.refused("text " + x, Edges::few, o -> o.first(x, 0, 0), UNKNOWN);
            edges.refused("text " + x + ": UNKNOWN ahead of OUTSIDE, i", Edges::few, o -> o.first(x, -1, 0), UNKNOWN);
            edges.refused("text " + x + ": UNKNOWN ahead of OUTSIDE, what", Edges::few, o -> o.first(x, 0, 3), UNKNOWN);
        }
        edges.is("the last word of sixty", Edges.full().first(9, 59, 1), 59);
        edges.is("no texts", new BorrowedWords().first(0, 0, 0), UNKNOWN);
    }

    private static void passedBounds() {
        edges.says("How many WORDS y PASSED ON to x. UNKNOWN");
        for (int x : Edges.strangers(3)) {
            edges.refused("to " + x, Edges::few, o -> o.passed(x, 0), UNKNOWN);
            edges.refused("by " + x, Edges::few, o -> o.passed(0, x), UNKNOWN);
            edges.refused(x + " and alike: UNKNOWN ahead of OUTSIDE", Edges::few, o -> o.passed(x, x), UNKNOWN);
        }
        BorrowedWords b = Edges.few();
        edges.is("to one without words", b.passed(2, 0), 0);
        edges.is("by one without words", b.passed(1, 2), 0);
        edges.is("no texts", new BorrowedWords().passed(0, 1), UNKNOWN);
    }

    private static void sprungBounds() {
        edges.says("(its own, too). UNKNOWN");
        for (int x : Edges.strangers(3)) edges.refused("text " + x, Edges::few, o -> o.sprung(x), UNKNOWN);
        for (int x : Edges.strangers(10)) edges.refused("text " + x + " of ten", Edges::full, o -> o.sprung(x), UNKNOWN);
        edges.is("no texts", new BorrowedWords().sprung(0), UNKNOWN);
    }
}
