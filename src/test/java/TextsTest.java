/** Promises 1 to 12: texts. */
final class TextsTest {
    private static final Due due = new Due();

    public static void main(String[] args) {
        aNewObject();
        texts();
        words();
        stops();
        copies();
        abouts();
        wordsAt();
        sameMeanings();
        commons();
        marks();
        standings();
        counts();
        due.end();
    }

    private static void aNewObject() {
        BorrowedWords b = new BorrowedWords();
        for (int what = 0; what <= 6; what++) due.is("new count " + what, b.count(what), 0);
        int[] atFirst = {4, 0, 0, 1, 900, 10, 50};
        for (int what = 0; what <= 6; what++) {
            due.is("new force first day " + what, b.force(what, 0), atFirst[what]);
            due.is("new force last day " + what, b.force(what, 999), atFirst[what]);
        }
        due.is("new fault", b.fault(), Due.NONE);
        due.is("new about", b.about(0, 0), Due.UNKNOWN);
        due.is("new stands", b.stands(0), Due.UNKNOWN);
        due.is("NONE", BorrowedWords.NONE, -1);
        due.is("UNKNOWN", BorrowedWords.UNKNOWN, -1001);
        due.is("OUTSIDE", BorrowedWords.OUTSIDE, -1002);
        due.is("NOT", BorrowedWords.NOT, -1003);
        due.is("FULL", BorrowedWords.FULL, -1004);
    }

    private static void texts() {
        BorrowedWords b = new BorrowedWords();
        due.is("writer -1", b.text(-1, 0), Due.OUTSIDE);
        due.is("writer 10", b.text(10, 0), Due.OUTSIDE);
        due.is("day -1", b.text(0, -1), Due.OUTSIDE);
        due.is("day 1000", b.text(0, 1000), Due.OUTSIDE);
        due.is("writer at the least int", b.text(Integer.MIN_VALUE, 0), Due.OUTSIDE);
        due.is("refused texts are none", b.count(0), 0);
        due.is("text 0", b.text(0, 999), 0);
        due.is("text 1", b.text(9, 0), 1);
        due.is("words of a new text", b.about(1, 2), 0);
        for (int x = 2; x < 10; x++) due.is("text " + x, b.text(1, 5), x);
        due.is("eleventh", b.text(1, 5), Due.FULL);
        due.is("eleventh, outside", b.text(10, 5), Due.OUTSIDE);
        due.is("texts", b.count(0), 10);
    }

    private static void words() {
        BorrowedWords b = new BorrowedWords();
        due.is("word of none", b.word(0, 1), Due.UNKNOWN);
        due.is("word of none, outside", b.word(0, 0), Due.UNKNOWN);
        b.text(0, 0);
        b.text(0, 0);
        due.is("word of -1", b.word(-1, 1), Due.UNKNOWN);
        due.is("word of 2", b.word(2, 1), Due.UNKNOWN);
        due.is("word 0", b.word(0, 0), Due.OUTSIDE);
        due.is("word 201", b.word(0, 201), Due.OUTSIDE);
        due.is("word 1", b.word(0, 1), 1);
        due.is("word 200", b.word(0, 200), 2);
        due.is("the other text has its own words", b.word(1, 7), 1);
        for (int n = 3; n <= 60; n++) due.is("word " + n, b.word(0, 5), n);
        due.is("61st", b.word(0, 5), Due.FULL);
        due.is("61st, outside", b.word(0, 201), Due.OUTSIDE);
        due.is("words", b.about(0, 2), 60);
        due.is("last word", b.at(0, 59), 5);
    }

    private static void stops() {
        BorrowedWords b = new BorrowedWords();
        due.is("stop of none", b.stop(0), Due.UNKNOWN);
        b.text(0, 0);
        due.is("stop without words", b.stop(0), Due.NOT);
        Due.add(b, 0, 1, 2);
        due.is("sentences without a stop", b.about(0, 3), 1);
        due.is("first stop", b.stop(0), 1);
        due.is("stop again", b.stop(0), Due.NOT);
        due.is("sentences with a stop", b.about(0, 3), 1);
        b.word(0, 3);
        due.is("sentences, one open", b.about(0, 3), 2);
        due.is("second stop", b.stop(0), 2);
        for (int n = 4; n <= 60; n++) {
            b.word(0, 9);
            due.is("stop behind word " + n, b.stop(0), n - 1);
        }
        due.is("sentences of a full text", b.about(0, 3), 59);
    }

    private static void copies() {
        BorrowedWords b = Due.with("", Due.words(1, 2, 0, 3, 4, 0, 5), Due.words(9));
        due.is("copy to none", b.copy(2, 0, 0, 0), Due.UNKNOWN);
        due.is("copy from none", b.copy(0, -1, 5, 9), Due.UNKNOWN);
        due.is("copy, i below 0", b.copy(1, 0, -1, 2), Due.OUTSIDE);
        due.is("copy, j too great", b.copy(1, 0, 0, 5), Due.OUTSIDE);
        due.is("copy, j below i", b.copy(1, 0, 3, 2), Due.OUTSIDE);
        due.is("copy, far out", b.copy(1, 0, Integer.MIN_VALUE, Integer.MAX_VALUE), Due.OUTSIDE);
        due.is("copy", b.copy(1, 0, 1, 3), 4);
        due.is("copied 1", b.at(1, 1), 2);
        due.is("copied 3", b.at(1, 3), 4);
        due.is("stops are copied", b.about(1, 3), 2);
        due.is("the last has its stop", b.stop(1), Due.NOT);
        due.is("copy of the open end", b.copy(1, 0, 4, 4), 5);
        due.is("no stop there", b.stop(1), 3);
        due.is("copy of itself", b.copy(0, 0, 0, 4), 10);
        due.is("copied 5", b.at(0, 5), 1);
        due.is("copied 9", b.at(0, 9), 5);
        due.is("sentences of itself twice", b.about(0, 3), 5);
        b.copy(0, 0, 0, 9);
        b.copy(0, 0, 0, 19);
        due.is("56 words", b.copy(0, 0, 0, 15), 56);
        due.is("too many", b.copy(0, 0, 0, 4), Due.FULL);
        due.is("too many, outside", b.copy(0, 0, 0, 56), Due.OUTSIDE);
        due.is("nothing is changed", b.about(0, 2), 56);
        due.is("just as many as go", b.copy(0, 0, 0, 3), 60);
        BorrowedWords stopped = Due.with("", Due.words(1, 0), Due.words());
        due.is("copy into an empty text", stopped.copy(1, 0, 0, 0), 1);
        due.is("from an empty text", Due.with("", Due.words(1), Due.words()).copy(0, 1, 0, 0), Due.OUTSIDE);
    }

    private static void abouts() {
        BorrowedWords b = new BorrowedWords();
        due.is("about none", b.about(0, 7), Due.UNKNOWN);
        Due.write(b, 3, 77, 1, 2, 3, 0, 4);
        Due.write(b, 4, 78, 2, 3, 9, 4);
        b.mark(1, 0, 1, 0);
        b.mark(1, 0, 2, 0);
        b.mark(1, 3, 3, Due.NONE);
        b.mark(1, 2, 3, 0);
        b.mark(0, 1, 2, 1);
        due.is("writer", b.about(0, 0), 3);
        due.is("day", b.about(0, 1), 77);
        due.is("words", b.about(0, 2), 4);
        due.is("sentences", b.about(0, 3), 2);
        due.is("right", b.about(1, 4), 1);
        due.is("open", b.about(1, 5), 1);
        due.is("wrong", b.about(1, 6), 2);
        due.is("wrong: cited from a later one", b.about(0, 6), 1);
        due.is("right of the other", b.about(0, 4), 0);
        due.is("what -1", b.about(0, -1), Due.OUTSIDE);
        due.is("what 7", b.about(0, 7), Due.OUTSIDE);
        b.text(0, 0);
        due.is("sentences of nothing", b.about(2, 3), 0);
    }

    private static void wordsAt() {
        BorrowedWords b = Due.with("", Due.words(11, 12));
        due.is("at 0", b.at(0, 0), 11);
        due.is("at 1", b.at(0, 1), 12);
        due.is("at 2", b.at(0, 2), Due.NONE);
        due.is("at -1", b.at(0, -1), Due.NONE);
        due.is("at far out", b.at(0, Integer.MAX_VALUE), Due.NONE);
        due.is("at of none", b.at(1, 0), Due.UNKNOWN);
        due.is("at of -1", b.at(-1, 0), Due.UNKNOWN);
    }

    private static void sameMeanings() {
        BorrowedWords b = new BorrowedWords();
        due.is("same 0", b.same(0, 1), Due.OUTSIDE);
        due.is("same 201", b.same(1, 201), Due.OUTSIDE);
        due.is("same, alike and outside", b.same(0, 0), Due.OUTSIDE);
        due.is("a word with itself", b.same(5, 5), Due.NOT);
        due.is("none yet", b.count(5), 0);
        due.is("two", b.same(1, 200), 2);
        due.is("two more", b.same(3, 4), 2);
        due.is("turned round", b.same(200, 1), Due.NOT);
        due.is("counted", b.count(5), 4);
        due.is("two and two", b.same(4, 200), 4);
        due.is("by others between", b.same(1, 3), Due.NOT);
        due.is("five", b.same(1, 2), 5);
        due.is("counted again", b.count(5), 5);
    }

    private static void commons() {
        BorrowedWords b = new BorrowedWords();
        due.is("common 0", b.common(0, true), Due.OUTSIDE);
        due.is("common 201", b.common(201, false), Due.OUTSIDE);
        due.is("was not", b.common(1, true), 0);
        due.is("was", b.common(1, true), 1);
        due.is("the last word", b.common(200, true), 0);
        due.is("two are", b.count(6), 2);
        due.is("no more", b.common(1, false), 1);
        due.is("was not any more", b.common(1, false), 0);
        due.is("one is", b.count(6), 1);
    }

    private static void marks() {
        BorrowedWords b = Due.with("", Due.words(1, 2, 3), Due.words(1, 2, 3));
        due.is("mark of none", b.mark(2, 0, 0, Due.NONE), Due.UNKNOWN);
        due.is("mark from none", b.mark(1, 0, 0, 2), Due.UNKNOWN);
        due.is("mark from -2", b.mark(1, 9, 9, -2), Due.UNKNOWN);
        due.is("mark, i", b.mark(1, -1, 0, 0), Due.OUTSIDE);
        due.is("mark, j", b.mark(1, 0, 3, 0), Due.OUTSIDE);
        due.is("mark, j below i", b.mark(1, 2, 1, 0), Due.OUTSIDE);
        due.is("mark from itself", b.mark(1, 0, 1, 1), Due.OUTSIDE);
        due.is("none yet", b.count(2), 0);
        for (int m = 0; m < 30; m++) due.is("mark " + m, b.mark(m % 2, 0, 2, m % 3 == 0 ? Due.NONE : 1 - m % 2), m);
        due.is("31st", b.mark(1, 0, 0, 0), Due.FULL);
        due.is("31st, outside", b.mark(1, 0, 0, 1), Due.OUTSIDE);
        due.is("marks", b.count(2), 30);
    }

    private static void standings() {
        BorrowedWords b = new BorrowedWords();
        Due.write(b, 0, 5, 1, 2, 3);
        Due.write(b, 0, 5, 7, 1, 2, 3, 4);
        Due.write(b, 0, 4, 2, 3);
        b.mark(1, 1, 3, 0);
        b.mark(0, 0, 2, 1);
        b.mark(1, 1, 4, 0);
        b.mark(0, 1, 2, 2);
        b.mark(2, 0, 1, 0);
        b.mark(2, 0, 1, Due.NONE);
        due.is("of the same day, lower number", b.stands(0), 0);
        due.is("of the same day, higher number", b.stands(1), 2);
        due.is("not just these", b.stands(2), 2);
        due.is("of an earlier day, higher number", b.stands(3), 0);
        due.is("of a later day", b.stands(4), 2);
        due.is("from none", b.stands(5), 1);
        b.word(0, 4);
        due.is("the cited text has grown", b.stands(2), 0);
        b.same(2, 8);
        Due.add(b, 2, 8);
        b.mark(0, 1, 1, 2);
        Due.write(b, 0, 6, 8, 3);
        b.mark(3, 0, 1, 2);
        due.is("words as they are, not by meaning", b.stands(7), 2);
        due.is("mark 8", b.stands(8), Due.UNKNOWN);
        due.is("mark -1", b.stands(-1), Due.UNKNOWN);
    }

    private static void counts() {
        BorrowedWords b = Due.with("least 2;", Due.words(1, 2, 0, 1), Due.words(1));
        b.mark(0, 0, 0, Due.NONE);
        b.feed(3, 0);
        b.same(1, 2);
        b.common(9, true);
        int[] want = {2, 4, 1, 1, 3, 2, 1};
        for (int what = 0; what <= 6; what++) due.is("count " + what, b.count(what), want[what]);
        due.is("count -1", b.count(-1), Due.OUTSIDE);
        due.is("count 7", b.count(7), Due.OUTSIDE);
    }
}
