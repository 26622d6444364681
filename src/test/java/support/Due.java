/** What the tests share: answers held against those that are due, and short ways to write texts and rules. */
final class Due {
    static final int NONE = -1, UNKNOWN = -1001, OUTSIDE = -1002, NOT = -1003, FULL = -1004;

    private int wrong;
    private int asked;

    void is(String call, long got, long want) {
        asked++;
        if (got != want) {
            wrong++;
            System.out.println(call + " answered " + got + ", due is " + want);
        }
    }

    /** To be called last: a test that found something wrong ends with exit code 1. */
    void end() {
        System.out.println(wrong == 0 ? asked + " answers are as due" : wrong + " of " + asked + " answers are not as due");
        if (wrong != 0) System.exit(1);
    }

    /** A new text with these words; 0 among them is a stop. */
    static int write(BorrowedWords b, int writer, int day, int... words) {
        int x = b.text(writer, day);
        add(b, x, words);
        return x;
    }

    static void add(BorrowedWords b, int x, int... words) {
        for (int w : words) {
            if (w == 0) b.stop(x);
            else b.word(x, w);
        }
    }

    static void feed(BorrowedWords b, String text) {
        for (int i = 0; i < text.length(); i++) b.feed(1, text.charAt(i));
    }

    static int rule(BorrowedWords b, String text, int day) {
        feed(b, text);
        return b.rule(day);
    }

    /** An object with one rule of day 0 (none, if it is empty) and these texts, text x of day x. */
    static BorrowedWords with(String rule, int[]... texts) {
        BorrowedWords b = new BorrowedWords();
        if (!rule.isEmpty()) rule(b, rule, 0);
        for (int x = 0; x < texts.length; x++) write(b, x % 10, x, texts[x]);
        return b;
    }

    static int[] words(int... w) {
        return w;
    }
}
