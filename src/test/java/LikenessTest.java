/** Promises 26 to 30: likeness, sentences. */
final class LikenessTest {
    private static final Due due = new Due();

    public static void main(String[] args) {
        rows();
        likenesses();
        nearest();
        families();
        sentences();
        refusals();
        due.end();
    }

    private static void rows() {
        BorrowedWords b = Due.with("mean yes;", Due.words(1, 2, 0, 1, 2, 1, 2, 200));
        int[] want = {3, 3, 3, 3, 3};
        for (int r = 1; r <= 5; r++) due.is("rows of " + r, b.rows(0, r), want[r - 1]);
        b.same(1, 2);
        due.is("words as they are", b.rows(0, 1), 3);
        BorrowedWords few = Due.with("", Due.words(1, 2, 3, 4), Due.words());
        due.is("fewer words than a row", few.rows(0, 5), 0);
        due.is("just a row", few.rows(0, 4), 1);
        due.is("no words", few.rows(1, 1), 0);
        BorrowedWords digits = Due.with("", Due.words(1, 200, 2, 1, 1, 1, 199, 2, 200, 1));
        due.is("rows that look alike when set side by side", digits.rows(0, 2), 8);
        BorrowedWords full = new BorrowedWords();
        full.text(0, 0);
        for (int w = 60; w >= 1; w--) full.word(0, w);
        due.is("sixty rows", full.rows(0, 1), 60);
        due.is("fifty-six rows", full.rows(0, 5), 56);
    }

    private static void like(BorrowedWords b, int x, int y, int r, int upper, int lower) {
        due.is("upper of " + x + ", " + y + " by " + r, b.likeness(x, y, r, 0), upper);
        due.is("lower of " + x + ", " + y + " by " + r, b.likeness(x, y, r, 1), lower);
    }

    private static void likenesses() {
        BorrowedWords b = Due.with("", Due.words(1, 2, 3, 4), Due.words(4, 3, 2, 1, 2, 3), Due.words(), Due.words(9));
        like(b, 0, 1, 1, 1, 1);
        like(b, 0, 1, 2, 1, 3);
        like(b, 1, 0, 2, 1, 3);
        like(b, 0, 1, 3, 1, 5);
        like(b, 0, 1, 5, 0, 1);
        like(b, 0, 2, 1, 0, 1);
        like(b, 2, 2, 1, 0, 1);
        like(b, 3, 3, 2, 0, 1);
        like(b, 0, 0, 4, 1, 1);
        like(b, 0, 3, 1, 0, 1);
        BorrowedWords half = Due.with("", Due.words(1, 2, 3, 4), Due.words(3, 4, 5, 6, 1, 2));
        like(half, 0, 1, 1, 2, 3);
    }

    private static void nearest() {
        BorrowedWords b = Due.with("", Due.words(1, 2, 3));
        due.is("no other", b.nearest(0, 1), Due.NONE);
        Due.write(b, 0, 0, 9);
        due.is("nothing alike, the least number", b.nearest(0, 1), 1);
        Due.write(b, 0, 0, 1, 2, 3, 4);
        Due.write(b, 0, 0, 2, 3, 1);
        due.is("by words", b.nearest(0, 1), 3);
        due.is("by rows of two", b.nearest(0, 2), 2);
        due.is("by rows of three", b.nearest(0, 3), 2);
        due.is("by rows of four", b.nearest(0, 4), 1);
        due.is("of nothing alike", b.nearest(1, 1), 0);
        Due.write(b, 0, 0, 3, 2, 1);
        due.is("of like ones the least", b.nearest(0, 1), 3);
        due.is("not itself", b.nearest(4, 1), 0);
    }

    private static void families() {
        BorrowedWords b = Due.with("", Due.words(1, 2), Due.words(5, 6), Due.words(3, 4), Due.words(2, 3), Due.words(), Due.words());
        due.is("by one between", b.family(2, 1, 33), 0);
        due.is("the one between", b.family(3, 1, 33), 0);
        due.is("a third is less than 34 hundredths", b.family(2, 1, 34), 2);
        due.is("alone", b.family(1, 1, 1), 1);
        due.is("by nothing all are one", b.family(1, 1, 0), 0);
        due.is("texts without rows are not alike", b.family(5, 1, 1), 5);
        due.is("but by nothing they are", b.family(5, 5, 0), 0);
        BorrowedWords whole = Due.with("", Due.words(1, 2), Due.words(3), Due.words(2, 1, 1));
        BorrowedWords thirds = Due.with("", Due.words(1, 2, 3), Due.words(1, 2));
        due.is("two thirds are 66 hundredths or more", thirds.family(1, 1, 66), 0);
        due.is("but not 67", thirds.family(1, 1, 67), 1);
        due.is("a hundred hundredths", whole.family(2, 1, 100), 0);
        due.is("a hundred hundredths, alone", whole.family(1, 1, 100), 1);
        BorrowedWords late = Due.with("", Due.words(1), Due.words(2), Due.words(3, 4), Due.words(1, 3), Due.words(2, 4), Due.words(1, 2));
        due.is("joined late", late.family(5, 1, 20), 0);
        due.is("joined late, by 4", late.family(4, 1, 20), 0);
        due.is("joined late, by 2", late.family(2, 1, 20), 0);
    }

    private static void pairs(BorrowedWords b, int x, int y, int kept, int moved, int fresh) {
        due.is("kept of " + x + ", " + y, b.moved(x, y, 0), kept);
        due.is("moved of " + x + ", " + y, b.moved(x, y, 1), moved);
        due.is("new of " + x + ", " + y, b.moved(x, y, 2), fresh);
    }

    private static void sentences() {
        BorrowedWords b = Due.with("mean yes;", Due.words(1, 2, 0, 3, 0, 4, 5, 0, 1, 2, 0, 6), Due.words(6, 0, 4, 5, 0, 3, 0, 1, 2),
            Due.words(), Due.words(1, 2, 3, 0, 5, 4, 0), Due.words(3, 0, 3, 0, 3, 0));
        pairs(b, 0, 1, 4, 3, 1);
        pairs(b, 1, 0, 4, 3, 0);
        pairs(b, 0, 2, 0, 0, 5);
        pairs(b, 2, 0, 0, 0, 0);
        pairs(b, 0, 3, 0, 0, 5);
        pairs(b, 0, 0, 5, 0, 0);
        pairs(b, 4, 4, 3, 0, 0);
        pairs(b, 4, 0, 1, 0, 2);
        pairs(b, 0, 4, 1, 0, 4);
        b.same(3, 6);
        pairs(b, 4, 1, 1, 0, 2);
        BorrowedWords full = new BorrowedWords();
        full.text(0, 0);
        full.text(0, 0);
        for (int w = 1; w <= 60; w++) Due.add(full, 0, w, 0);
        for (int w = 60; w >= 1; w--) Due.add(full, 1, w, 0);
        pairs(full, 0, 1, 60, 59, 0);
    }

    private static void refusals() {
        BorrowedWords b = Due.with("", Due.words(1, 2), Due.words(1, 2));
        due.is("rows of none", b.rows(2, 9), Due.UNKNOWN);
        due.is("rows 0", b.rows(0, 0), Due.OUTSIDE);
        due.is("rows 6", b.rows(0, 6), Due.OUTSIDE);
        due.is("likeness of none", b.likeness(-1, 0, 9, 9), Due.UNKNOWN);
        due.is("likeness with none", b.likeness(0, 2, 9, 9), Due.UNKNOWN);
        due.is("likeness r 0", b.likeness(0, 1, 0, 0), Due.OUTSIDE);
        due.is("likeness r 6", b.likeness(0, 1, 6, 0), Due.OUTSIDE);
        due.is("likeness what 2", b.likeness(0, 1, 1, 2), Due.OUTSIDE);
        due.is("likeness what -1", b.likeness(0, 1, 1, -1), Due.OUTSIDE);
        due.is("nearest of none", b.nearest(2, 0), Due.UNKNOWN);
        due.is("nearest r 0", b.nearest(0, 0), Due.OUTSIDE);
        due.is("nearest r 6", b.nearest(0, 6), Due.OUTSIDE);
        due.is("family of none", b.family(2, 0, 0), Due.UNKNOWN);
        due.is("family r 0", b.family(0, 0, 0), Due.OUTSIDE);
        due.is("family r 6", b.family(0, 6, 0), Due.OUTSIDE);
        due.is("family u -1", b.family(0, 1, -1), Due.OUTSIDE);
        due.is("family u 101", b.family(0, 1, 101), Due.OUTSIDE);
        due.is("moved of none", b.moved(2, 0, 9), Due.UNKNOWN);
        due.is("moved with none", b.moved(0, -1, 9), Due.UNKNOWN);
        due.is("moved what 3", b.moved(0, 1, 3), Due.OUTSIDE);
        due.is("moved what -1", b.moved(0, 1, -1), Due.OUTSIDE);
    }
}
