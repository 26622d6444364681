/** Promises 23 to 25: who had it first. */
final class FirstTest {
    private static final Due due = new Due();

    public static void main(String[] args) {
        steps();
        eachByItsOwnRules();
        slippedWords();
        tenTexts();
        refusals();
        due.end();
    }

    private static void asks(BorrowedWords b, int x, int i, int text, int place, int steps) {
        due.is("first text of " + x + ", " + i, b.first(x, i, 0), text);
        due.is("first place of " + x + ", " + i, b.first(x, i, 1), place);
        due.is("steps of " + x + ", " + i, b.first(x, i, 2), steps);
    }

    private static void steps() {
        BorrowedWords b = Due.with("least 2;", Due.words(9, 1, 2), Due.words(1, 2, 3, 4), Due.words(8, 2, 3, 4));
        asks(b, 0, 0, 0, 0, 0);
        asks(b, 1, 0, 0, 1, 1);
        asks(b, 1, 1, 0, 2, 1);
        asks(b, 1, 2, 1, 2, 0);
        asks(b, 2, 0, 2, 0, 0);
        asks(b, 2, 1, 0, 2, 2);
        asks(b, 2, 2, 1, 2, 1);
        asks(b, 2, 3, 1, 3, 1);
        due.is("passed on by the one between", b.passed(2, 1), 3);
        due.is("passed on by the one where it ends", b.passed(2, 0), 1);
        due.is("passed on by a later one", b.passed(0, 2), 0);
        due.is("sprung from 0", b.sprung(0), 3 + 2 + 1);
        due.is("sprung from 1", b.sprung(1), 2 + 2);
        due.is("sprung from 2", b.sprung(2), 1);
    }

    private static void eachByItsOwnRules() {
        BorrowedWords b = Due.with("least 2;", Due.words(1, 2, 3), Due.words(1, 2, 3), Due.words(1, 2, 3));
        due.is("straight from the first source", b.first(2, 0, 2), 1);
        Due.rule(b, "free 2;", 2);
        due.is("two days before is too old: by 1", b.passed(2, 1), 3);
        asks(b, 2, 1, 0, 1, 2);
        Due.rule(b, "least 20;", 1);
        Due.rule(b, "least 2;", 2);
        asks(b, 2, 1, 1, 1, 1);
        due.is("nothing of 0 any more", b.passed(2, 0), 0);
        due.is("sprung from 1", b.sprung(1), 6);
    }

    private static void slippedWords() {
        BorrowedWords b = Due.with("least 2;slips 1;", Due.words(7, 1, 2, 3), Due.words(1, 9, 3));
        asks(b, 1, 1, 0, 2, 1);
        due.is("slipped words are passed on, too", b.passed(1, 0), 3);
    }

    private static void tenTexts() {
        BorrowedWords b = new BorrowedWords();
        Due.rule(b, "least 2;free 2;", 0);
        for (int x = 0; x < 10; x++) Due.write(b, 0, 100 - x, 1, 2);
        asks(b, 0, 1, 9, 1, 9);
        due.is("by all between", b.passed(0, 5), 2);
        due.is("all is sprung from the oldest", b.sprung(9), 20);
        due.is("and none from the latest", b.sprung(0), 0);
    }

    private static void refusals() {
        BorrowedWords b = Due.with("", Due.words(1), Due.words());
        due.is("first of none", b.first(2, 0, 0), Due.UNKNOWN);
        due.is("first of -1", b.first(-1, 9, 9), Due.UNKNOWN);
        due.is("first i 1", b.first(0, 1, 0), Due.OUTSIDE);
        due.is("first i -1", b.first(0, -1, 0), Due.OUTSIDE);
        due.is("first of no words", b.first(1, 0, 0), Due.OUTSIDE);
        due.is("first what 3", b.first(0, 0, 3), Due.OUTSIDE);
        due.is("first what -1", b.first(0, 0, -1), Due.OUTSIDE);
        due.is("passed to none", b.passed(2, 2), Due.UNKNOWN);
        due.is("passed by none", b.passed(0, -1), Due.UNKNOWN);
        due.is("passed alike", b.passed(1, 1), Due.OUTSIDE);
        due.is("sprung of none", b.sprung(2), Due.UNKNOWN);
        due.is("sprung of -1", b.sprung(-1), Due.UNKNOWN);
        due.is("sprung", b.sprung(0), 1);
        due.is("sprung of no words", b.sprung(1), 0);
    }
}
