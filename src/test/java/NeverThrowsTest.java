import java.util.Random;

/** No call throws or goes on for ever, whatever its arguments and however full the object is. */
final class NeverThrowsTest {
    private static final int[] EDGES = {Integer.MIN_VALUE, Integer.MIN_VALUE + 1, -1004, -61, -2, -1, 0, 1, 2, 3, 4, 5, 6, 7, 8, 9, 10, 11, 29, 30,
        58, 59, 60, 61, 100, 101, 199, 200, 201, 998, 999, 1000, Integer.MAX_VALUE - 1, Integer.MAX_VALUE};
    private static final int CALLS = 29;

    private final Random random;
    private final BorrowedWords b = new BorrowedWords();

    private NeverThrowsTest(int seed) {
        random = new Random(seed);
    }

    public static void main(String[] args) {
        Due due = new Due();
        for (int seed = 0; seed < 300; seed++) {
            NeverThrowsTest test = new NeverThrowsTest(seed);
            test.fill(seed % 4);
            for (int call = 0; call < 512; call++) test.call(test.random.nextInt(CALLS), call);
            due.is("still there, seed " + seed, test.b.count(0) >= 0 ? 1 : 0, 1);
        }
        due.end();
    }

    /** 0: nothing at first; else ten full texts of as many letters, so that runs are everywhere. */
    private void fill(int letters) {
        if (letters == 0) return;
        Due.rule(b, "least 2;slips 3;mean yes;common no;free 999;", 0);
        for (int x = 0; x < 10; x++) {
            b.text(x, random.nextInt(3));
            for (int i = 0; i < 60; i++) b.word(x, 1 + random.nextInt(letters));
        }
    }

    /** Mostly one that may be fine, at times one at an edge. */
    private int any() {
        return random.nextInt(3) == 0 ? EDGES[random.nextInt(EDGES.length)] : random.nextInt(10);
    }

    private void call(int which, int turn) {
        int p = any(), q = any(), r = any(), s = any();
        switch (which) {
            case 0 -> b.text(p, q);
            case 1 -> b.word(p, q);
            case 2 -> b.stop(p);
            case 3 -> b.copy(p, q, r, s);
            case 4 -> b.about(p, q);
            case 5 -> b.at(p, q);
            case 6 -> b.same(p, q);
            case 7 -> b.common(p, turn % 2 == 0);
            case 8 -> b.mark(p, q, r, s);
            case 9 -> b.stands(p);
            case 10 -> b.count(p);
            case 11 -> b.feed(p, random.nextLong());
            case 12 -> b.rule(p);
            case 13 -> b.fault();
            case 14 -> b.force(p, q);
            case 15 -> b.sources(p, q);
            case 16 -> b.reach(p, q, r, s);
            case 17 -> b.piece(p, q, r, s);
            case 18 -> b.judged(p, q, r);
            case 19 -> b.fewest(p, q);
            case 20 -> b.hangs(p, q);
            case 21 -> b.first(p, q, r);
            case 22 -> b.passed(p, q);
            case 23 -> b.sprung(p);
            case 24 -> b.rows(p, q);
            case 25 -> b.likeness(p, q, r, s);
            case 26 -> b.nearest(p, q);
            case 27 -> b.family(p, q, r);
            default -> b.moved(p, q, r);
        }
    }
}
