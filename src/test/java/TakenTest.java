/** Promises 17 to 22: what is taken. Worked out by hand; ModelTest holds many more against a plain model. */
final class TakenTest {
    private static final Due due = new Due();

    public static void main(String[] args) {
        sources();
        reaches();
        slipsAndMeanings();
        commonWords();
        pieces();
        likePieces();
        verdicts();
        fewestSources();
        hangsOn();
        refusals();
        whatWasWorkedOutIsNotStale();
        due.end();
    }

    private static void sources() {
        BorrowedWords b = new BorrowedWords();
        int[] days = {10, 5, 10, 10, 8, 11};
        for (int day : days) b.text(0, day);
        due.is("of the same day, by numbers", b.sources(2, 6), 0b010011);
        due.is("not itself", b.sources(0, 6), 0b010010);
        due.is("as known by 4", b.sources(5, 4), 0b001111);
        due.is("as known by 0", b.sources(5, 0), 0);
        due.is("the oldest", b.sources(1, 6), 0);
        Due.rule(b, "free 3;", 0);
        due.is("3 days before is too old", b.sources(5, 6), 0b001101);
        due.is("2 days before is not", b.sources(5, 5) | b.sources(3, 6), 0b010101 | 0b001101);
        Due.rule(b, "free 1;", 11);
        due.is("by the rules of its day", b.sources(5, 6), 0);
        due.is("the others' rules are theirs", b.sources(3, 6), 0b010101);
        Due.rule(b, "free 0;", 0);
        Due.rule(b, "strike 0;", 0);
        due.is("free 0: not of the same day either", b.sources(3, 6), 0);
        due.is("free 1: of the same day", b.sources(5, 6) + b.text(0, 11) + b.sources(6, 7), 6 + 0b100000);
    }

    private static void reaches() {
        BorrowedWords b = Due.with("", Due.words(1, 2, 3, 4, 9, 1, 2, 3, 4, 5), Due.words(1, 2, 3, 4, 5),
            Due.words(8, 1, 2, 3, 4, 5, 1, 2, 3, 4));
        due.is("none", b.reach(2, 3, 0, 0), 0);
        due.is("none, source", b.reach(2, 3, 0, 1), Due.NONE);
        due.is("none, place", b.reach(2, 3, 0, 2), Due.NONE);
        due.is("greatest", b.reach(2, 3, 1, 0), 5);
        due.is("first source", b.reach(2, 3, 1, 1), 0);
        due.is("its place", b.reach(2, 3, 1, 2), 5);
        due.is("inside", b.reach(2, 3, 2, 0), 4);
        due.is("three is too few", b.reach(2, 3, 3, 0), 0);
        due.is("least j", b.reach(2, 3, 6, 2), 0);
        due.is("as known by 0", b.reach(2, 0, 1, 0), 0);
        BorrowedWords other = Due.with("", Due.words(1, 2, 3, 4), Due.words(7, 1, 2, 3, 4, 5), Due.words(1, 2, 3, 4, 5));
        due.is("the source with more", other.reach(2, 3, 0, 1), 1);
        due.is("as known by 1, the other", other.reach(2, 1, 0, 1), 0);
        due.is("as known by 1, size", other.reach(2, 1, 0, 0), 4);
    }

    private static void slipsAndMeanings() {
        BorrowedWords b = Due.with("slips 2;least 3;", Due.words(1, 2, 3, 4, 5, 6, 7), Due.words(1, 2, 30, 4, 50, 6, 70));
        due.is("two slips, not at the end", b.reach(1, 2, 0, 0), 6);
        due.is("does not begin with a slip", b.reach(1, 2, 2, 0), 0);
        due.is("from within", b.reach(1, 2, 1, 0), 5);
        b.same(50, 5);
        due.is("meaning does not count yet", b.reach(1, 2, 4, 0), 0);
        Due.rule(b, "mean yes;", 1);
        due.is("meaning counts", b.reach(1, 2, 4, 0), 0);
        due.is("one slip less, the last still none", b.reach(1, 2, 3, 0), 3);
        b.same(70, 7);
        due.is("begins with a word that means the same", b.reach(1, 2, 4, 0), 3);
        due.is("one slip alone", b.reach(1, 2, 0, 0), 7);
        Due.rule(b, "slips 0;", 1);
        due.is("no slips", b.reach(1, 2, 0, 0), 0);
        due.is("no slips, four like ones", b.reach(1, 2, 3, 0), 4);
        BorrowedWords far = Due.with("slips 3;least 2;", Due.words(1, 2, 3, 4, 5), Due.words(1, 9, 9, 9, 5));
        due.is("three slips between", far.reach(1, 2, 0, 0), 5);
        due.is("all of it is taken", far.judged(1, 2, 0), 5);
        BorrowedWords four = Due.with("slips 3;least 2;", Due.words(1, 2, 3, 4, 5, 6), Due.words(1, 9, 9, 9, 9, 6));
        due.is("four slips between", four.reach(1, 2, 0, 0), 0);
        BorrowedWords apart = Due.with("slips 3;least 2;", Due.words(1, 3, 9, 9), Due.words(1, 2, 3, 4));
        due.is("slips of one place are not those of the next", apart.reach(1, 2, 1, 0), 0);
        BorrowedWords last = Due.with("least 2;mean yes;", Due.words(199, 200, 1), Due.words(198, 199, 200, 200));
        due.is("the last words of all", last.reach(1, 2, 1, 0), 2);
        last.same(200, 1);
        due.is("the last words of all by meaning", last.reach(1, 2, 1, 0), 3);
    }

    private static void commonWords() {
        BorrowedWords b = Due.with("common no;least 3;", Due.words(1, 2, 3, 4, 5, 6), Due.words(1, 2, 3, 4, 5, 6));
        b.common(1, true);
        b.common(2, true);
        due.is("four of six are not common", b.reach(1, 2, 0, 0), 6);
        b.common(3, true);
        due.is("three of six", b.reach(1, 2, 0, 0), 6);
        b.common(4, true);
        due.is("two of six", b.reach(1, 2, 0, 0), 0);
        b.common(5, true);
        due.is("none of five", b.reach(1, 2, 0, 0), 0);
        due.is("one of three, half of them cut is one", b.reach(1, 2, 3, 0), 3);
        due.is("one of four", b.reach(1, 2, 2, 0), 0);
        due.is("pieces", b.judged(1, 2, 0), 3);
        Due.rule(b, "common yes;", 1);
        due.is("common ones count", b.reach(1, 2, 0, 0), 6);
    }

    private static void pieces() {
        BorrowedWords b = Due.with("least 2;", Due.words(1, 2, 3, 9, 4, 5), Due.words(3, 4, 5, 6), Due.words(7, 1, 2, 3, 4, 5, 6, 7));
        due.is("two pieces", b.piece(2, 3, Due.NONE, 0), 2);
        int[] whats = {-1, 3, 4, Integer.MIN_VALUE, Integer.MAX_VALUE};
        for (int what : whats) {
            due.is("two pieces, what " + what, b.piece(2, 3, Due.NONE, what), 2);
            due.is("no pieces, what " + what, b.piece(0, 3, Due.NONE, what), 0);
            due.is("no pieces without sources, what " + what, b.piece(2, 0, Due.NONE, what), 0);
        }
        int[][] want = {{1, 3, 0, 0}, {4, 3, 1, 1}};
        for (int p = 0; p < 2; p++) {
            for (int what = 0; what < 4; what++) due.is("piece " + p + ", " + what, b.piece(2, 3, p, what), want[p][what]);
        }
        due.is("no third", b.piece(2, 3, 2, 0), Due.NONE);
        due.is("no -2nd", b.piece(2, 3, -2, 0), Due.NONE);
        due.is("as known by 1", b.piece(2, 1, Due.NONE, 0), 2);
        due.is("as known by 1, second", b.piece(2, 1, 1, 1), 2);
        due.is("as known by 1, its place", b.piece(2, 1, 1, 3), 4);
        due.is("of what is its own", b.piece(0, 3, Due.NONE, 0), 0);
        due.is("of what is its own, first", b.piece(0, 3, 0, 0), Due.NONE);
    }

    private static void likePieces() {
        BorrowedWords b = Due.with("least 2;", Due.words(1, 2, 3), Due.words(3, 4, 5), Due.words(1, 2, 3, 4, 5));
        due.is("as many words by two pieces", b.judged(2, 3, 0), 5);
        due.is("the greater first", b.piece(2, 3, 0, 1), 3);
        due.is("the rest", b.piece(2, 3, 1, 1), 2);
        due.is("the rest is from", b.piece(2, 3, 1, 3), 1);
        BorrowedWords fewer = Due.with("least 2;", Due.words(1, 2, 3), Due.words(2, 3, 4, 5), Due.words(4, 5), Due.words(1, 2, 3, 4, 5, 9));
        due.is("not the greatest at first", fewer.piece(3, 4, Due.NONE, 0), 2);
        due.is("first of the fewest", fewer.piece(3, 4, 0, 1), 3);
        due.is("from the first source", fewer.piece(3, 4, 1, 2), 1);
        BorrowedWords two = Due.with("least 2;slips 1;", Due.words(1, 2, 3), Due.words(3, 99, 5, 6, 7), Due.words(4, 5), Due.words(1, 2, 3, 4, 5, 6, 7));
        due.is("all is taken", two.judged(3, 4, 0), 7);
        due.is("fewer pieces ahead of a greater first one", two.piece(3, 4, Due.NONE, 0), 2);
        due.is("a smaller first one", two.piece(3, 4, 0, 1), 2);
        due.is("a greater second one", two.piece(3, 4, 1, 1), 5);
        due.is("more words ahead of a greater first one", Due.with("least 2;", Due.words(1, 2, 3), Due.words(3, 4), Due.words(1, 2, 3, 4)).piece(2, 3, 0, 1), 2);
        BorrowedWords early = Due.with("least 3;", Due.words(1, 2, 3), Due.words(3, 4, 5), Due.words(1, 2, 3, 4, 5));
        due.is("the earlier one of like ones", early.piece(2, 3, 0, 0), 0);
        due.is("one alone", early.piece(2, 3, Due.NONE, 0), 1);
        BorrowedWords gap = Due.with("least 3;slips 1;", Due.words(1, 2, 3, 4, 5, 6), Due.words(1, 2, 9, 4, 9, 9, 6));
        due.is("a size below the reach need not be a run", gap.piece(1, 2, 0, 1), 4);
        BorrowedWords more = Due.with("least 2;", Due.words(1, 2, 3, 4), Due.words(5, 1, 2), Due.words(3, 4, 6),
            Due.words(5, 1, 2, 3, 4, 6));
        due.is("more words ahead of fewer pieces", more.judged(3, 4, 0), 6);
        due.is("by two pieces", more.piece(3, 4, Due.NONE, 0), 2);
    }

    /** Text 1 has 20 words, the first n of them as in text 0. */
    private static BorrowedWords taking(int n, String rule) {
        BorrowedWords b = new BorrowedWords();
        if (!rule.isEmpty()) Due.rule(b, rule, 0);
        b.text(0, 0);
        b.text(0, 1);
        for (int i = 0; i < 20; i++) {
            b.word(0, 1 + i);
            b.word(1, i < n ? 1 + i : 101 + i);
        }
        return b;
    }

    private static void verdicts() {
        BorrowedWords b = taking(10, "");
        due.is("taken", b.judged(1, 2, 0), 10);
        due.is("borrowed", b.judged(1, 2, 1), 10);
        due.is("share", b.judged(1, 2, 2), 50);
        due.is("heavy just so", b.judged(1, 2, 3), 4);
        due.is("own, as known by 0", b.judged(1, 0, 3), 0);
        b.mark(1, 9, 9, 0);
        due.is("borrowed less one", b.judged(1, 2, 1), 9);
        due.is("mixed", b.judged(1, 2, 3), 3);
        b.mark(1, 5, 8, Due.NONE);
        due.is("an open mark is nothing", b.judged(1, 2, 1), 9);
        b.mark(1, 2, 7, 0);
        due.is("borrowed three", b.judged(1, 2, 1), 3);
        due.is("share of it", b.judged(1, 2, 2), 15);
        b.mark(1, 1, 2, 0);
        due.is("light just so", b.judged(1, 2, 2) * 10 + b.judged(1, 2, 3), 102);
        b.mark(1, 0, 10, 0);
        due.is("a wrong mark is nothing", b.judged(1, 2, 1), 2);
        b.mark(1, 0, 8, 0);
        due.is("cited", b.judged(1, 2, 3), 1);
        due.is("cited all, taken still", b.judged(1, 2, 0), 10);
        due.is("heavy ahead of light", taking(4, "light 20;heavy 20;").judged(1, 2, 3), 4);
        due.is("light above heavy", taking(4, "light 100;heavy 21;").judged(1, 2, 3), 2);
        due.is("heavy 0", taking(4, "heavy 0;").judged(1, 2, 3), 4);
        due.is("light 0", taking(4, "light 0;").judged(1, 2, 3), 3);
        BorrowedWords third = Due.with("least 2;", Due.words(1, 2), Due.words(1, 2, 9));
        due.is("share is cut", third.judged(1, 2, 2), 66);
        BorrowedWords none = Due.with("", Due.words());
        for (int what = 0; what < 4; what++) due.is("no words, " + what, none.judged(0, 1, what), 0);
        BorrowedWords unknown = Due.with("least 2;", Due.words(1, 2), Due.words(1, 2), Due.words(1, 2));
        unknown.mark(2, 0, 1, 1);
        due.is("right by a text that is not known by k", unknown.judged(2, 1, 3), 1);
    }

    private static void fewestSources() {
        BorrowedWords b = Due.with("least 2;", Due.words(1, 2), Due.words(3, 4), Due.words(5, 6), Due.words(1, 2, 3, 4), Due.words(3, 4, 5, 6),
            Due.words(1, 2, 3, 4, 5, 6));
        due.is("two for three", b.fewest(5, 6), 0b001100);
        due.is("as known by 3", b.fewest(5, 3), 0b000111);
        due.is("as known by 4", b.fewest(5, 4), 0b001100);
        due.is("none for none", b.fewest(0, 6), 0);
        due.is("none known", b.fewest(5, 0), 0);
        due.is("one of two, the least set", Due.with("least 2;", Due.words(1, 2), Due.words(1, 2), Due.words(1, 2)).fewest(2, 3), 1);
        BorrowedWords all = new BorrowedWords();
        Due.rule(all, "least 2;", 0);
        all.text(0, 999);
        for (int y = 1; y < 10; y++) {
            Due.write(all, 0, 500, 2 * y, 2 * y + 1);
            Due.add(all, 0, 2 * y, 2 * y + 1);
        }
        due.is("all nine", all.fewest(0, 10), 0b1111111110);
        due.is("those that are known", all.fewest(0, 5), 0b11110);
    }

    private static void hangsOn() {
        BorrowedWords b = Due.with("least 2;light 40;heavy 80;", Due.words(1, 2, 3), Due.words(4, 5), Due.words(4, 5),
            Due.words(1, 2, 3, 4, 5));
        due.is("heavy by 0 alone", b.hangs(3, 4), 0b0001);
        due.is("heavy by 0 and 1", b.hangs(3, 2), 0b0011);
        due.is("mixed by 0", b.hangs(3, 1), 0b0001);
        due.is("by none", b.hangs(3, 0), 0);
        due.is("own", b.hangs(0, 4), 0);
        b.mark(3, 0, 2, 0);
        due.is("light with and without", b.hangs(3, 3), 0);
        due.is("without 1 it is cited", b.hangs(3, 2), 0b0010);
    }

    private static void refusals() {
        BorrowedWords b = Due.with("", Due.words(1, 2, 3, 4), Due.words(1, 2, 3, 4));
        int[] texts = {-1, 2, Integer.MIN_VALUE, Integer.MAX_VALUE};
        for (int x : texts) {
            due.is("sources of " + x, b.sources(x, 9), Due.UNKNOWN);
            due.is("reach of " + x, b.reach(x, 9, 9, 9), Due.UNKNOWN);
            due.is("piece of " + x, b.piece(x, 9, 9, 9), Due.UNKNOWN);
            due.is("judged of " + x, b.judged(x, 9, 9), Due.UNKNOWN);
            due.is("fewest of " + x, b.fewest(x, 9), Due.UNKNOWN);
            due.is("hangs of " + x, b.hangs(x, 9), Due.UNKNOWN);
        }
        int[] ks = {-1, 3, Integer.MIN_VALUE, Integer.MAX_VALUE};
        for (int k : ks) {
            due.is("sources by " + k, b.sources(1, k), Due.OUTSIDE);
            due.is("reach by " + k, b.reach(1, k, 0, 0), Due.OUTSIDE);
            due.is("piece by " + k, b.piece(1, k, 0, 0), Due.OUTSIDE);
            due.is("judged by " + k, b.judged(1, k, 0), Due.OUTSIDE);
            due.is("fewest by " + k, b.fewest(1, k), Due.OUTSIDE);
            due.is("hangs by " + k, b.hangs(1, k), Due.OUTSIDE);
        }
        due.is("reach i -1", b.reach(1, 2, -1, 0), Due.OUTSIDE);
        due.is("reach i 4", b.reach(1, 2, 4, 0), Due.OUTSIDE);
        due.is("reach what -1", b.reach(1, 2, 0, -1), Due.OUTSIDE);
        due.is("reach what 3", b.reach(1, 2, 0, 3), Due.OUTSIDE);
        due.is("piece what -1", b.piece(1, 2, 0, -1), Due.OUTSIDE);
        due.is("piece what 4", b.piece(1, 2, 0, 4), Due.OUTSIDE);
        due.is("piece what 4 of one that there is not", b.piece(1, 2, 9, 4), Due.OUTSIDE);
        due.is("piece what -1 of one that there is not", b.piece(1, 2, -2, -1), Due.OUTSIDE);
        due.is("how many pieces of no text", b.piece(2, 0, Due.NONE, -1), Due.UNKNOWN);
        due.is("how many pieces by -1", b.piece(1, -1, Due.NONE, -1), Due.OUTSIDE);
        due.is("how many pieces by 3", b.piece(1, 3, Due.NONE, 4), Due.OUTSIDE);
        due.is("judged what -1", b.judged(1, 2, -1), Due.OUTSIDE);
        due.is("judged what 4", b.judged(1, 2, 4), Due.OUTSIDE);
    }

    /** Each change is asked about right behind the same question ahead of it. */
    private static void whatWasWorkedOutIsNotStale() {
        BorrowedWords b = Due.with("least 2;common no;mean yes;", Due.words(1, 2, 3), Due.words(1, 2, 4));
        due.is("at first", b.judged(1, 2, 0) * 10 + b.passed(1, 0), 22);
        b.same(3, 4);
        due.is("after same", b.judged(1, 2, 0) * 10 + b.passed(1, 0), 33);
        b.word(1, 1);
        b.word(1, 2);
        due.is("after words", b.judged(1, 2, 0) * 10 + b.passed(1, 0), 55);
        b.common(1, true);
        b.common(2, true);
        due.is("after common", b.judged(1, 2, 0) * 10 + b.passed(1, 0), 33);
        b.copy(1, 0, 2, 2);
        due.is("after copy", b.judged(1, 2, 0) * 10 + b.passed(1, 0), 66);
        Due.rule(b, "least 4;", 1);
        due.is("after rule", b.judged(1, 2, 0) * 10 + b.passed(1, 0), 0);
        Due.rule(b, "least 2;", 1);
        due.is("after rule", b.judged(1, 2, 0) * 10 + b.passed(1, 0), 66);
        b.text(0, 0);
        due.is("after text, first", b.first(1, 0, 0), 0);
        b.copy(2, 0, 0, 2);
        due.is("after text", b.sources(1, 3), 0b101);
        due.is("after text, sprung", b.sprung(0), 12);
    }
}
