import java.util.Random;

/** Runs of calls drawn by a fixed seed: each answer of the class is held against the plain model's. */
final class ModelTest {
    private static final Due due = new Due();
    private static final String[] CLAUSES = {"least 2;", "least 3;", "least2 ;", "slips 1;", "slips 2;", "slips 0;", "mean yes;", "mean no;",
        "common no;", "common yes;", "free 3;", "free 1;", "free 999;", "light 30;", "light 0;", "heavy 40;", "heavy 70;", "strike 0;",
        "strike 1;", "strike 2;", "strike 5;", "least 20;", "slips 3;", "free 0;", "light 100;", "heavy 0;", "heavy 100;"};
    private static final String[] BITS = {"least", "slips", "mean", "common", "free", "light", "heavy", "strike", "yes", "no", ";", ";", " ",
        "0", "1", "2", "4", "20", "21", "999", "1000", "x", "~", "-"};

    private final Random random;
    private final BorrowedWords b = new BorrowedWords();
    private final Model m = new Model();
    private final int letters;
    private final int seed;

    private final int longest;
    private int calls;

    /** The document promises nothing of later calls. */
    private static final int MOST_CALLS = 512;

    private ModelTest(int seed, int longest) {
        this.seed = seed;
        this.longest = longest;
        random = new Random(seed);
        letters = longest > 12 ? 2 + random.nextInt(40) : 2 + random.nextInt(7);
    }

    public static void main(String[] args) {
        int runs = args.length > 0 ? Integer.parseInt(args[0]) : 1500;
        for (int seed = 0; seed < runs; seed++) new ModelTest(seed, 12).run();
        for (int seed = 0; seed < runs / 50; seed++) new ModelTest(seed, 60).run();
        for (int seed = 0; seed < runs / 15; seed++) new ModelTest(-1 - seed, 12).useUp();
        for (int seed = 0; seed < runs / 150; seed++) new ModelTest(-1 - seed, 60).useUp();
        due.end();
    }

    /** As many calls on one object as the document promises something of. */
    private void useUp() {
        build();
        while (calls < MOST_CALLS) {
            if (random.nextInt(3) == 0) change();
            else ask();
        }
    }

    private void run() {
        build();
        for (int turn = 0; turn < 40; turn++) {
            if (random.nextInt(5) == 0) change();
            else ask();
        }
    }

    private void is(String call, int got, int want) {
        calls++;
        if (calls <= MOST_CALLS) due.is("seed " + seed + ": " + call, got, want);
    }

    /** A number of 0 to n - 1, seldom one beyond. */
    private int some(int n) {
        int r = random.nextInt(40);
        return r == 0 ? -1 : r == 1 ? n : random.nextInt(Math.max(1, n));
    }

    private int texts() {
        return m.count(0);
    }

    private void build() {
        if (random.nextInt(4) > 0) rule(clauses(1 + random.nextInt(4)), random.nextInt(3));
        int texts = longest > 12 ? 10 : 1 + random.nextInt(5);
        for (int x = 0; x < texts; x++) {
            int day = random.nextInt(6);
            is("text", b.text(x, day), m.text(x, day));
            for (int parts = random.nextInt(longest / 3); parts > 0 && m.about(x, 2) < longest; parts--) {
                if (x > 0 && random.nextBoolean()) copy(x);
                else for (int n = random.nextInt(6); n > 0; n--) word(x);
            }
        }
    }

    private void change() {
        int x = some(texts());
        switch (random.nextInt(11)) {
            case 0, 1 -> {
                if (longest > 12 || m.about(x, 2) < longest) word(x);
            }
            case 2 -> is("stop", b.stop(x), m.stop(x));
            case 3 -> {
                if (longest > 12 || m.about(x, 2) < longest - 2) copy(x);
            }
            case 4 -> {
                int v = some(letters + 1), w = some(letters + 1);
                is("same", b.same(v, w), m.same(v, w));
            }
            case 5 -> {
                int w = some(letters + 1);
                boolean is = random.nextInt(3) > 0;
                is("common", b.common(w, is), m.common(w, is));
            }
            case 6, 7 -> {
                int y = random.nextInt(5) == 0 ? -1 : some(texts());
                int i = some(m.about(x, 2)), j = i + random.nextInt(longest > 12 ? 20 : 3);
                is("mark", b.mark(x, i, j, y), m.mark(x, i, j, y));
            }
            case 8 -> rule(clauses(1 + random.nextInt(9)), some(10));
            case 9 -> rule(rubble(), some(1000));
            default -> {
                int w = some(10), day = some(6);
                is("text", b.text(w, day), m.text(w, day));
            }
        }
    }

    private void word(int x) {
        int w = random.nextInt(40) == 0 ? 0 : 1 + random.nextInt(letters);
        is("word", b.word(x, w), m.word(x, w));
        if (random.nextInt(4) == 0) is("stop", b.stop(x), m.stop(x));
    }

    private void copy(int x) {
        int y = some(texts()), i = some(m.about(y, 2)), j = i + random.nextInt(longest > 12 ? 20 : 5);
        is("copy", b.copy(x, y, i, j), m.copy(x, y, i, j));
    }

    private String clauses(int n) {
        StringBuilder text = new StringBuilder();
        for (int c = 0; c < n; c++) text.append(CLAUSES[random.nextInt(CLAUSES.length)]);
        return text.toString();
    }

    /** Clauses of which a few bits were changed, lost or put in. */
    private String rubble() {
        StringBuilder text = new StringBuilder(clauses(random.nextInt(4)));
        for (int n = random.nextInt(4); n > 0; n--) {
            int place = random.nextInt(text.length() + 1);
            if (random.nextBoolean() && place < text.length()) text.deleteCharAt(place);
            else text.insert(place, BITS[random.nextInt(BITS.length)]);
        }
        return text.toString();
    }

    private void rule(String text, int day) {
        for (int i = 0; i < text.length(); ) {
            int n = Math.min(1 + random.nextInt(8), text.length() - i);
            long bytes = random.nextLong();
            for (int k = 0; k < n; k++) bytes = bytes << 8 | text.charAt(i + k);
            is("feed", b.feed(n, bytes), m.feed(n, bytes));
            i += n;
        }
        is("rule '" + text + "'", b.rule(day), m.rule(day));
        is("fault of '" + text + "'", b.fault(), m.fault());
    }

    private void ask() {
        int x = some(texts()), y = some(texts()), k = some(texts() + 1), i = some(m.about(x, 2)), r = 1 + some(5);
        switch (random.nextInt(20)) {
            case 0 -> ask("about", i, 7, w -> b.about(x, w), w -> m.about(x, w));
            case 1 -> is("at", b.at(x, i), m.at(x, i));
            case 2 -> ask("count", i, 7, b::count, m::count);
            case 3 -> ask("stands", i, m.count(2), b::stands, m::stands);
            case 4 -> ask("force", i, 7, w -> b.force(w, i), w -> m.force(w, i));
            case 5 -> is("sources", b.sources(x, k), m.sources(x, k));
            case 6, 7 -> ask("reach", i, 3, w -> b.reach(x, k, i, w), w -> m.reach(x, k, i, w));
            case 8, 9 -> {
                int p = some(4) - 1;
                ask("piece", p, 4, w -> b.piece(x, k, p, w), w -> m.piece(x, k, p, w));
            }
            case 10 -> ask("judged", x, 4, w -> b.judged(x, k, w), w -> m.judged(x, k, w));
            case 11 -> is("fewest", b.fewest(x, k), m.fewest(x, k));
            case 12 -> is("hangs", b.hangs(x, k), m.hangs(x, k));
            case 13 -> ask("first", i, 3, w -> b.first(x, i, w), w -> m.first(x, i, w));
            case 14 -> is("passed", b.passed(x, y), m.passed(x, y));
            case 15 -> is("sprung", b.sprung(x), m.sprung(x));
            case 16 -> is("rows", b.rows(x, r), m.rows(x, r));
            case 17 -> ask("likeness", r, 2, w -> b.likeness(x, y, r, w), w -> m.likeness(x, y, r, w));
            case 18 -> {
                int u = random.nextInt(8) == 0 ? some(101) : random.nextInt(60);
                is("nearest", b.nearest(x, r), m.nearest(x, r));
                is("family", b.family(x, r, u), m.family(x, r, u));
            }
            default -> ask("moved", y, 3, w -> b.moved(x, y, w), w -> m.moved(x, y, w));
        }
    }

    private interface Call {
        int of(int what);
    }

    /** A question with each of its whats, and now and then one out of its bounds. */
    private void ask(String name, int where, int whats, Call got, Call want) {
        for (int what = 0; what < whats; what++) is(name + " at " + where + ", what " + what, got.of(what), want.of(what));
        int beyond = random.nextBoolean() ? -1 : whats;
        is(name + " at " + where + ", what " + beyond, got.of(beyond), want.of(beyond));
    }
}
