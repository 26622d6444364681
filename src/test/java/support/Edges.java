/**
 * What the tests of the boundary cases share: the sentence of the document that a test is of, numbers beyond bounds,
 * objects with room and without, and whether a refused call changed anything.
 */
final class Edges {
    static final int NONE = Due.NONE, UNKNOWN = Due.UNKNOWN, OUTSIDE = Due.OUTSIDE, NOT = Due.NOT, FULL = Due.FULL;
    private static final long BLANKS = 0x2020202020202020L;

    interface Making {
        BorrowedWords make();
    }

    interface Call {
        int on(BorrowedWords b);
    }

    private final Due due = new Due();
    private String sentence = "";

    /** The document's sentence that the answers behind this are held against. */
    void says(String words) {
        sentence = words;
    }

    void is(String call, long got, long want) {
        due.is("\"" + sentence + "\": " + call, got, want);
    }

    void end() {
        due.end();
    }

    /** The first number that is not taken on each side, and the furthest ones. */
    static int[] beyond(int low, int high) {
        return new int[] {low - 1, high + 1, Integer.MIN_VALUE, Integer.MAX_VALUE};
    }

    /** Numbers that are no text's (no mark's), where there are so many. */
    static int[] strangers(int many) {
        return beyond(0, many - 1);
    }

    /** The call is refused so, and the object answers all as one does on which it was not tried. */
    void refused(String call, Making making, Call tried, int want) {
        BorrowedWords b = making.make();
        is(call, tried.on(b), want);
        String got = seen(b);
        String due = seen(making.make());
        is(call + " changes nothing" + (got.equals(due) ? "" : ", but " + got + " is not " + due), got.equals(due) ? 1 : 0, 1);
    }

    /** A little of everything, and room for more: texts 0 to 2 (the last without words), two marks, two rules, a fault, six bytes. */
    static BorrowedWords few() {
        BorrowedWords b = new BorrowedWords();
        Due.rule(b, "least 2;", 0);
        Due.rule(b, "slips 1;", 9);
        Due.write(b, 3, 5, 1, 2, 0, 3, 4, 5);
        Due.write(b, 4, 9, 1, 2, 8, 4, 9, 0);
        b.text(5, 9);
        b.mark(1, 0, 1, 0);
        b.mark(0, 4, 4, NONE);
        b.same(1, 7);
        b.common(3, true);
        Due.rule(b, "  x", 0);
        Due.feed(b, "light ");
        return b;
    }

    /** As many of everything as there may be: texts with all their words, marks, rules, bytes. */
    static BorrowedWords full() {
        BorrowedWords b = new BorrowedWords();
        for (int r = 0; r < 8; r++) Due.rule(b, "least " + (r + 2) + ";", r);
        for (int x = 0; x < 10; x++) b.text(x, x);
        fill(b, 0);
        for (int x = 1; x < 10; x++) b.copy(x, 0, 0, 59);
        for (int m = 0; m < 30; m++) b.mark(m % 10, m, m + m % 4, m % 10 == 4 ? NONE : 4);
        for (int n = 0; n < 15; n++) b.feed(8, BLANKS);
        return b;
    }

    /** Sixty words of a text that has none: six, and these again; a stop behind the third of each six. */
    static void fill(BorrowedWords b, int x) {
        Due.add(b, x, 1, 2, 3, 0, 4, 5, 6);
        b.copy(x, x, 0, 5);
        b.copy(x, x, 0, 11);
        b.copy(x, x, 0, 23);
        b.copy(x, x, 0, 11);
    }

    /** What an object answers: few enough questions for the 512 calls of full() and these together. */
    static String seen(BorrowedWords b) {
        StringBuilder all = new StringBuilder();
        for (int what = 0; what <= 6; what++) all.append(b.count(what)).append(' ');
        all.append("fault ").append(b.fault()).append(" force");
        for (int day = 0; day <= 999; day += 333) {
            for (int what = 0; what <= 6; what++) all.append(' ').append(b.force(what, day));
        }
        int texts = b.count(0);
        for (int x = 0; x < texts; x++) seenText(b, x, texts, all);
        all.append(" marks");
        for (int m = b.count(2) - 1; m >= 0; m--) all.append(' ').append(b.stands(m));
        seenByChange(b, all);
        return all.toString();
    }

    private static void seenText(BorrowedWords b, int x, int texts, StringBuilder all) {
        all.append(" text ").append(x);
        for (int what = 0; what <= 6; what++) all.append(' ').append(b.about(x, what));
        int size = b.about(x, 2);
        for (int i = size - 3; i <= size; i++) all.append(' ').append(b.at(x, i));
        all.append(' ').append(b.rows(x, 1)).append(' ').append(b.rows(x, 2)).append(' ').append(b.sources(x, texts));
        all.append(' ').append(b.judged(x, texts, 0)).append(' ').append(b.judged(x, texts, 3)).append(' ').append(b.sprung(x));
    }

    /** To be asked last: what only a call that changes something tells. */
    private static void seenByChange(BorrowedWords b, StringBuilder all) {
        all.append(" stops");
        for (int x = b.count(0) - 1; x >= 0; x--) all.append(' ').append(b.stop(x));
        all.append(" common");
        for (int w = 1; w <= 9; w++) all.append(' ').append(b.common(w, false));
        all.append(" same");
        for (int w = 2; w <= 9; w++) all.append(' ').append(b.same(1, w));
        all.append(" rule ").append(b.feed(2, '7' << 8 | ';')).append(' ').append(b.rule(333)).append(' ').append(b.fault());
        all.append(' ').append(b.force(5, 332)).append(' ').append(b.force(5, 333));
    }
}
