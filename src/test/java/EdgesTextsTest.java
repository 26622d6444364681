/** The boundary cases of part 1, promises 1 to 12: each sentence that names one has a test of its own. */
final class EdgesTextsTest {
    private static final int NONE = Due.NONE, UNKNOWN = Due.UNKNOWN, OUTSIDE = Due.OUTSIDE, NOT = Due.NOT, FULL = Due.FULL;
    private static final int[] NO_WORD = Edges.beyond(1, 200);
    private static final Edges edges = new Edges();

    public static void main(String[] args) {
        tenTexts();
        writers();
        days();
        numbersInOrder();
        sixtyWords();
        wordBounds();
        stopsAtTheEdges();
        lastSentences();
        older();
        meaningAll();
        meaningRefusals();
        commonAll();
        thirtyMarks();
        markPlaces();
        markedTexts();
        rightAtTheEdges();
        openAndWrong();
        copyPlaces();
        copyRoom();
        copyStops();
        copyOfItself();
        aboutBounds();
        atBounds();
        standsBounds();
        countBounds();
        refusalsInOrder();
        aNewObjectHasNone();
        lastOfAllCalls();
        edges.end();
    }

    private static void tenTexts() {
        edges.says("TEXTS (10 at most)");
        BorrowedWords b = new BorrowedWords();
        for (int x = 0; x < 9; x++) b.text(0, 0);
        edges.is("the tenth", b.text(0, 0), 9);
        edges.is("the tenth is there", b.about(9, 2), 0);
        edges.is("the eleventh", b.text(0, 0), FULL);
        edges.is("as many", b.count(0), 10);
        edges.is("of the eleventh", b.about(10, 0), UNKNOWN);
        edges.refused("text on a full object", Edges::full, o -> o.text(9, 999), FULL);
    }

    private static void writers() {
        edges.says("by a WRITER (0 .. 9)");
        BorrowedWords b = new BorrowedWords();
        edges.is("writer 0", b.text(0, 1), 0);
        edges.is("writer 9", b.text(9, 1), 1);
        edges.is("it is 0", b.about(0, 0), 0);
        edges.is("it is 9", b.about(1, 0), 9);
        for (int w : Edges.beyond(0, 9)) edges.refused("writer " + w, Edges::few, o -> o.text(w, 1), OUTSIDE);
    }

    private static void days() {
        edges.says("of a DAY (0 .. 999)");
        BorrowedWords b = new BorrowedWords();
        edges.is("day 999", b.text(1, 999), 0);
        edges.is("day 0", b.text(1, 0), 1);
        edges.is("it is 999", b.about(0, 1), 999);
        edges.is("it is 0", b.about(1, 1), 0);
        for (int day : Edges.beyond(0, 999)) edges.refused("day " + day, Edges::few, o -> o.text(1, day), OUTSIDE);
    }

    private static void numbersInOrder() {
        edges.says("What has a number has it from 0 on, as it comes");
        BorrowedWords b = new BorrowedWords();
        edges.is("the first text", b.text(4, 9), 0);
        edges.is("a refused one", b.text(10, 9), OUTSIDE);
        edges.is("the next text, of an earlier day", b.text(4, 3), 1);
        b.word(0, 1);
        edges.is("the first mark", b.mark(0, 0, 0, NONE), 0);
        edges.is("a refused mark", b.mark(0, 0, 1, NONE), OUTSIDE);
        edges.is("the next mark", b.mark(0, 0, 0, 1), 1);
        edges.is("the first rule", b.rule(9), 0);
        edges.is("one with a fault", Due.rule(b, "x", 9), -11);
        edges.is("the next rule, of an earlier day", b.rule(3), 1);
    }

    private static void sixtyWords() {
        edges.says("each has up to 60 WORDS");
        BorrowedWords b = new BorrowedWords();
        b.text(0, 0);
        b.text(0, 0);
        for (int n = 1; n < 60; n++) b.word(0, n);
        edges.is("the sixtieth", b.word(0, 60), 60);
        edges.is("it is there", b.at(0, 59), 60);
        edges.is("the next", b.word(0, 61), FULL);
        edges.is("as many", b.about(0, 2), 60);
        edges.is("the other text has room", b.word(1, 61), 1);
        edges.is("words of all", b.count(1), 61);
        edges.is("words of ten full texts", Edges.full().count(1), 600);
        for (int x = 0; x < 10; x++) {
            int text = x;
            edges.refused("a word more of full text " + x, Edges::full, o -> o.word(text, 7), FULL);
        }
    }

    private static void wordBounds() {
        edges.says("WORDS (1 .. 200)");
        BorrowedWords b = new BorrowedWords();
        b.text(0, 0);
        edges.is("word 1", b.word(0, 1), 1);
        edges.is("word 200", b.word(0, 200), 2);
        edges.is("it is 1", b.at(0, 0), 1);
        edges.is("it is 200", b.at(0, 1), 200);
        for (int w : NO_WORD) edges.refused("word " + w, Edges::few, o -> o.word(0, w), OUTSIDE);
    }

    private static void stopsAtTheEdges() {
        edges.says("NOT: it has no WORDS, or there is one already");
        edges.refused("stop of a text without words", Edges::few, o -> o.stop(2), NOT);
        edges.refused("stop behind a stop", Edges::few, o -> o.stop(1), NOT);
        for (int x : Edges.strangers(3)) edges.refused("stop of text " + x, Edges::few, o -> o.stop(x), UNKNOWN);
        BorrowedWords b = new BorrowedWords();
        b.text(0, 0);
        for (int n = 1; n <= 60; n++) {
            b.word(0, 1);
            edges.is("stop behind word " + n, b.stop(0), n);
            edges.is("again behind word " + n, b.stop(0), NOT);
        }
        BorrowedWords last = Edges.full();
        edges.is("ten stops, and the eleventh behind the last word of a full text", last.stop(0), 11);
        edges.is("again", last.stop(0), NOT);
    }

    private static void lastSentences() {
        edges.says("the last SENTENCE ends with the TEXT, without a STOP, too");
        BorrowedWords b = new BorrowedWords();
        b.text(0, 0);
        edges.is("no words", b.about(0, 3), 0);
        b.word(0, 5);
        edges.is("a word", b.about(0, 3), 1);
        b.stop(0);
        edges.is("a word and a stop", b.about(0, 3), 1);
        b.word(0, 5);
        edges.is("and a word", b.about(0, 3), 2);
        BorrowedWords full = Edges.full();
        edges.is("a full text, open", full.about(0, 3), 11);
        full.stop(0);
        edges.is("a full text, with a stop", full.about(0, 3), 11);
    }

    /** A mark of the one word that both texts have is right just where the cited text is older. */
    private static void older() {
        edges.says("A TEXT is OLDER than another one, if its DAY is less, or it is of the same DAY and its number is less");
        int[][] days = {{0, 0}, {0, 1}, {1, 0}, {999, 999}, {998, 999}, {999, 998}, {0, 999}, {999, 0}};
        for (int[] day : days) {
            BorrowedWords b = new BorrowedWords();
            Due.write(b, 0, day[0], 7);
            Due.write(b, 0, day[1], 7);
            b.mark(1, 0, 0, 0);
            b.mark(0, 0, 0, 1);
            boolean firstIsOlder = day[0] <= day[1];
            String of = " of days " + day[0] + ", " + day[1];
            edges.is("1 cites 0" + of, b.stands(0), firstIsOlder ? 0 : 2);
            edges.is("0 cites 1" + of, b.stands(1), firstIsOlder ? 2 : 0);
            Due.rule(b, "free 999;", 0);
            boolean inTime = Math.abs(day[0] - day[1]) < 999;
            edges.is("sources of 1" + of, b.sources(1, 2), firstIsOlder && inTime ? 0b01 : 0);
            edges.is("sources of 0" + of, b.sources(0, 2), firstIsOlder || !inTime ? 0 : 0b10);
        }
    }

    private static void meaningAll() {
        edges.says("WORDS MEAN THE SAME, if they were told to, straight or by others between");
        BorrowedWords b = new BorrowedWords();
        for (int w = 2; w <= 200; w++) edges.is("same " + (w - 1) + ", " + w, b.same(w - 1, w), w);
        edges.is("all of them", b.count(5), 200);
        edges.is("the first and the last", b.same(1, 200), NOT);
        edges.is("the last and the first", b.same(200, 1), NOT);
        edges.is("still all", b.count(5), 200);
        BorrowedWords halves = new BorrowedWords();
        for (int w = 2; w <= 100; w++) halves.same(1, w);
        for (int w = 101; w < 200; w++) halves.same(200, w);
        edges.is("two halves", halves.count(5), 200);
        edges.is("the halves become one", halves.same(57, 163), 200);
        BorrowedWords ends = new BorrowedWords();
        edges.is("the last and the first word", ends.same(200, 1), 2);
        edges.is("told already, the first and the last", ends.same(1, 200), NOT);
        edges.is("by the first", ends.same(1, 100), 3);
        edges.is("by the last", ends.same(99, 200), 4);
        edges.is("all four", ends.count(5), 4);
    }

    private static void meaningRefusals() {
        edges.says("OUTSIDE; NOT: they do already");
        edges.is("1 and 200 are taken", new BorrowedWords().same(200, 1), 2);
        for (int w : NO_WORD) {
            edges.refused("same " + w + ", 1", Edges::few, o -> o.same(w, 1), OUTSIDE);
            edges.refused("same 200, " + w, Edges::few, o -> o.same(200, w), OUTSIDE);
            edges.refused("same " + w + " twice", Edges::few, o -> o.same(w, w), OUTSIDE);
        }
        edges.refused("told already", Edges::few, o -> o.same(1, 7), NOT);
        edges.refused("told already, turned round", Edges::few, o -> o.same(7, 1), NOT);
        edges.refused("a word and itself", Edges::few, o -> o.same(200, 200), NOT);
    }

    private static void commonAll() {
        edges.says("A WORD is COMMON, or not: what it was (1, 0). OUTSIDE");
        BorrowedWords b = new BorrowedWords();
        for (int w = 1; w <= 200; w++) edges.is("word " + w + " was not", b.common(w, true), 0);
        edges.is("all are", b.count(6), 200);
        edges.is("1 was", b.common(1, false), 1);
        edges.is("200 was", b.common(200, false), 1);
        edges.is("200 was not any more", b.common(200, false), 0);
        edges.is("but two", b.count(6), 198);
        for (int w : NO_WORD) {
            edges.refused("common " + w, Edges::few, o -> o.common(w, true), OUTSIDE);
            edges.refused("not common " + w, Edges::few, o -> o.common(w, false), OUTSIDE);
        }
    }

    private static void thirtyMarks() {
        edges.says("MARKS (30 at most)");
        BorrowedWords b = Due.with("", Due.words(1), Due.words(1));
        for (int m = 0; m < 29; m++) b.mark(m % 2, 0, 0, NONE);
        edges.is("the thirtieth", b.mark(1, 0, 0, 0), 29);
        edges.is("it stands", b.stands(29), 0);
        edges.is("the next, of the one text", b.mark(0, 0, 0, NONE), FULL);
        edges.is("the next, of the other text", b.mark(1, 0, 0, 0), FULL);
        edges.is("as many", b.count(2), 30);
        edges.is("of the next", b.stands(30), UNKNOWN);
        edges.refused("mark on a full object", Edges::full, o -> o.mark(5, 0, 59, 4), FULL);
        edges.refused("open mark on a full object", Edges::full, o -> o.mark(5, 0, 0, NONE), FULL);
    }

    private static void markPlaces() {
        edges.says("UNKNOWN, OUTSIDE (i, j; y alike x), FULL");
        BorrowedWords b = Edges.few();
        edges.is("the first word", b.mark(0, 0, 0, NONE), 2);
        edges.is("the last word", b.mark(0, 4, 4, NONE), 3);
        edges.is("all words", b.mark(0, 0, 4, NONE), 4);
        for (int i : Edges.beyond(0, 4)) {
            edges.refused("mark from " + i, Edges::few, o -> o.mark(0, i, 4, NONE), OUTSIDE);
            edges.refused("mark to " + i, Edges::few, o -> o.mark(0, 0, i, NONE), OUTSIDE);
            edges.refused("mark of " + i, Edges::few, o -> o.mark(0, i, i, NONE), OUTSIDE);
            edges.refused("mark of a text without words", Edges::few, o -> o.mark(2, i, i, NONE), OUTSIDE);
        }
        edges.refused("mark from 3 to 2", Edges::few, o -> o.mark(0, 3, 2, NONE), OUTSIDE);
        edges.refused("mark from 1 to 0", Edges::few, o -> o.mark(0, 1, 0, NONE), OUTSIDE);
        edges.refused("mark of word 0, there is none", Edges::few, o -> o.mark(2, 0, 0, NONE), OUTSIDE);
        edges.refused("cited from itself", Edges::few, o -> o.mark(0, 0, 4, 0), OUTSIDE);
        edges.refused("60 is no place of a full text", Edges::full, o -> o.mark(0, 0, 60, 1), OUTSIDE);
    }

    private static void markedTexts() {
        edges.says("WORDS i to j CITED from y (NONE: none)");
        BorrowedWords b = Edges.few();
        edges.is("from the first text", b.mark(1, 0, 0, 0), 2);
        edges.is("from the last text", b.mark(1, 0, 0, 2), 3);
        edges.is("from none", b.mark(1, 0, 0, NONE), 4);
        int[] noText = {-2, 3, 10, Integer.MIN_VALUE, Integer.MAX_VALUE};
        for (int y : noText) edges.refused("from text " + y, Edges::few, o -> o.mark(1, 0, 0, y), UNKNOWN);
        for (int x : Edges.strangers(3)) {
            edges.refused("of text " + x, Edges::few, o -> o.mark(x, 0, 0, 0), UNKNOWN);
            edges.refused("of text " + x + " from none", Edges::few, o -> o.mark(x, 0, 0, NONE), UNKNOWN);
        }
    }

    private static int standing(int[] cited, int[] citing, int i, int j) {
        BorrowedWords b = Due.with("", cited, citing);
        b.mark(1, i, j, 0);
        return b.stands(0);
    }

    private static void rightAtTheEdges() {
        edges.says("A MARK is RIGHT, if that TEXT is OLDER and has just these WORDS side by side somewhere");
        int[] abc = Due.words(1, 2, 3);
        edges.is("at its begin", standing(abc, Due.words(1, 2), 0, 1), 0);
        edges.is("at its end", standing(abc, Due.words(2, 3), 0, 1), 0);
        edges.is("its last word", standing(abc, Due.words(9, 3), 1, 1), 0);
        edges.is("all of it", standing(abc, Due.words(9, 1, 2, 3, 9), 1, 3), 0);
        edges.is("more than all of it", standing(abc, Due.words(9, 1, 2, 3, 9), 1, 4), 2);
        edges.is("over its end", standing(abc, Due.words(2, 3, 1), 0, 2), 2);
        edges.is("not side by side", standing(abc, Due.words(1, 3), 0, 1), 2);
        edges.is("turned round", standing(abc, Due.words(2, 1), 0, 1), 2);
        edges.is("begun twice", standing(Due.words(1, 1, 2), Due.words(1, 2), 0, 1), 0);
        edges.is("over a stop", standing(Due.words(1, 0, 2), Due.words(1, 2, 0), 0, 1), 0);
        edges.is("of a text without words", standing(Due.words(), Due.words(1), 0, 0), 2);
        BorrowedWords full = Edges.full();
        edges.is("thirty marks of full texts, one of an older one", full.stands(5), 0);
        BorrowedWords all = new BorrowedWords();
        all.text(0, 0);
        all.text(0, 1);
        Edges.fill(all, 0);
        all.copy(1, 0, 0, 59);
        all.mark(1, 0, 59, 0);
        edges.is("sixty words", all.stands(0), 0);
        edges.is("sixty words, counted", all.about(1, 4), 1);
    }

    private static void openAndWrong() {
        edges.says("OPEN, if it names none; else WRONG");
        BorrowedWords b = Due.with("", Due.words(1, 2), Due.words(1, 2));
        b.mark(1, 0, 1, NONE);
        b.mark(0, 0, 1, 1);
        edges.is("names none", b.stands(0), 1);
        edges.is("of a later one", b.stands(1), 2);
        b.text(0, 0);
        b.mark(0, 0, 1, 2);
        edges.is("of one without words, of the same day, later", b.stands(2), 2);
        b.copy(2, 0, 0, 1);
        edges.is("it has these words, but is not older", b.stands(2), 2);
        int[][] want = {{0, 0, 2}, {0, 1, 0}};
        for (int x = 0; x < 2; x++) {
            for (int how = 0; how < 3; how++) edges.is("about " + x + ", " + (4 + how), b.about(x, 4 + how), want[x][how]);
        }
    }

    private static void copyPlaces() {
        edges.says("UNKNOWN, OUTSIDE (i, j of y, j below i), FULL (nothing is changed)");
        for (int i : Edges.beyond(0, 4)) {
            edges.refused("copy from " + i, Edges::few, o -> o.copy(1, 0, i, 4), OUTSIDE);
            edges.refused("copy to " + i, Edges::few, o -> o.copy(1, 0, 0, i), OUTSIDE);
            edges.refused("copy of " + i, Edges::few, o -> o.copy(0, 0, i, i), OUTSIDE);
        }
        edges.refused("copy from 1 to 0", Edges::few, o -> o.copy(1, 0, 1, 0), OUTSIDE);
        edges.refused("copy of 0, there is none", Edges::few, o -> o.copy(1, 2, 0, 0), OUTSIDE);
        edges.refused("the places are those of y", Edges::few, o -> o.copy(0, 2, 0, 0), OUTSIDE);
        for (int x : Edges.strangers(3)) {
            edges.refused("copy into " + x, Edges::few, o -> o.copy(x, 0, 0, 0), UNKNOWN);
            edges.refused("copy of text " + x, Edges::few, o -> o.copy(0, x, 0, 0), UNKNOWN);
        }
        BorrowedWords b = Edges.few();
        edges.is("the first word", b.copy(2, 0, 0, 0), 1);
        edges.is("the last word", b.copy(2, 0, 4, 4), 2);
        edges.is("all words", b.copy(2, 0, 0, 4), 7);
        int[] want = {1, 5, 1, 2, 3, 4, 5, NONE};
        for (int i = 0; i < want.length; i++) edges.is("word " + i, b.at(2, i), want[i]);
    }

    /** Text 0 has sixty words, text 1 the first n of them, text 2 none. */
    private static BorrowedWords filled(int n) {
        BorrowedWords b = new BorrowedWords();
        for (int x = 0; x < 3; x++) b.text(0, x);
        Edges.fill(b, 0);
        b.copy(1, 0, 0, n - 1);
        return b;
    }

    private static void copyRoom() {
        edges.says("FULL (nothing is changed)");
        edges.is("sixty into none", filled(1).copy(2, 0, 0, 59), 60);
        edges.is("59 to one", filled(1).copy(1, 0, 0, 58), 60);
        edges.refused("sixty to one", () -> filled(1), o -> o.copy(1, 0, 0, 59), FULL);
        edges.is("one to 59", filled(59).copy(1, 0, 59, 59), 60);
        edges.refused("two to 59", () -> filled(59), o -> o.copy(1, 0, 58, 59), FULL);
        edges.refused("one to sixty", () -> filled(60), o -> o.copy(1, 0, 0, 0), FULL);
        edges.refused("one of itself to sixty", () -> filled(60), o -> o.copy(0, 0, 0, 0), FULL);
        edges.refused("a stop does not come along", () -> filled(60), o -> o.copy(0, 0, 2, 2), FULL);
        edges.is("thirty of itself to thirty", filled(30).copy(1, 1, 0, 29), 60);
        edges.refused("31 of itself to 31", () -> filled(31), o -> o.copy(1, 1, 0, 30), FULL);
    }

    private static void copyStops() {
        edges.says("as told one by one; STOPS behind them, too");
        BorrowedWords b = Due.with("", Due.words(1, 0, 2, 0, 3), Due.words(9), Due.words(9), Due.words(9));
        b.copy(1, 0, 1, 1);
        edges.is("the stop ahead of the first copied word does not come along", b.about(1, 3), 1);
        edges.is("that behind the last one does", b.stop(1), NOT);
        b.copy(2, 0, 2, 2);
        edges.is("there is none behind the text's end", b.stop(2), 1);
        b.copy(3, 0, 0, 2);
        edges.is("all of it", b.about(3, 3), 3);
        edges.is("all of it, the last one open", b.stop(3), 3);
        BorrowedWords full = new BorrowedWords();
        full.text(0, 0);
        full.text(0, 0);
        Due.add(full, 0, 1, 0);
        for (int n = 1; n < 32; n *= 2) full.copy(0, 0, 0, n - 1);
        full.copy(1, 0, 0, 31);
        edges.is("sixty words", full.copy(1, 0, 4, 31), 60);
        edges.is("each with its stop", full.about(1, 3), 60);
        edges.is("the sixtieth, too", full.stop(1), NOT);
    }

    private static void copyOfItself() {
        edges.says("(y may be x.)");
        BorrowedWords b = Due.with("", Due.words(1, 2, 0, 3));
        edges.is("all of itself", b.copy(0, 0, 0, 2), 6);
        int[] want = {1, 2, 3, 1, 2, 3, NONE};
        for (int i = 0; i < want.length; i++) edges.is("word " + i, b.at(0, i), want[i]);
        edges.is("sentences", b.about(0, 3), 3);
        edges.is("its last word", b.copy(0, 0, 5, 5), 7);
        edges.is("the place behind it", b.copy(0, 0, 7, 7), OUTSIDE);
        edges.refused("of itself, it has no words", Edges::few, o -> o.copy(2, 2, 0, 0), OUTSIDE);
    }

    private static void aboutBounds() {
        edges.says("Of a TEXT: what = 0 WRITER, 1 DAY, 2 WORDS, 3 SENTENCES, 4 MARKS that are RIGHT, 5 OPEN, 6 WRONG");
        BorrowedWords b = new BorrowedWords();
        b.text(9, 999);
        int[] want = {9, 999, 0, 0, 0, 0, 0};
        for (int what = 0; what <= 6; what++) edges.is("without words, " + what, b.about(0, what), want[what]);
        for (int what : Edges.beyond(0, 6)) edges.refused("what " + what, Edges::few, o -> o.about(0, what), OUTSIDE);
        for (int x : Edges.strangers(3)) edges.refused("text " + x, Edges::few, o -> o.about(x, 0), UNKNOWN);
        edges.is("the last text", Edges.full().about(9, 6) + Edges.full().about(9, 4), 3);
    }

    private static void atBounds() {
        edges.says("WORD i of a TEXT; NONE. UNKNOWN");
        BorrowedWords b = Edges.full();
        edges.is("the first of sixty", b.at(0, 0), 1);
        edges.is("the last of sixty", b.at(9, 59), 6);
        for (int i : Edges.beyond(0, 59)) edges.is("place " + i + " of a full text", b.at(9, i), NONE);
        BorrowedWords few = Edges.few();
        edges.is("place 0 of a text without words", few.at(2, 0), NONE);
        edges.is("the last of five", few.at(0, 4), 5);
        edges.is("the place behind it", few.at(0, 5), NONE);
        for (int x : Edges.strangers(3)) {
            edges.refused("text " + x, Edges::few, o -> o.at(x, 0), UNKNOWN);
            edges.refused("text " + x + ", place -1", Edges::few, o -> o.at(x, -1), UNKNOWN);
        }
    }

    private static void standsBounds() {
        edges.says("How a MARK stands: 0 RIGHT, 1 OPEN, 2 WRONG. UNKNOWN");
        edges.is("the first", Edges.few().stands(0), 0);
        edges.is("the last", Edges.few().stands(1), 1);
        for (int m : Edges.strangers(2)) edges.refused("mark " + m, Edges::few, o -> o.stands(m), UNKNOWN);
        for (int m : Edges.strangers(30)) edges.refused("mark " + m + " of a full object", Edges::full, o -> o.stands(m), UNKNOWN);
        edges.is("mark 0 of a new object", new BorrowedWords().stands(0), UNKNOWN);
    }

    private static void countBounds() {
        edges.says("How many: 0 TEXTS, 1 WORDS of all, 2 MARKS, 3 RULES, 4 bytes of THE TEXT that is read");
        int[] full = {10, 600, 30, 8, 120, 0, 0};
        int[] few = {3, 10, 2, 2, 6, 2, 1};
        for (int what = 0; what <= 6; what++) {
            edges.is("of a new object, " + what, new BorrowedWords().count(what), 0);
            edges.is("of one with room, " + what, Edges.few().count(what), few[what]);
            edges.is("of a full one, " + what, Edges.full().count(what), full[what]);
        }
        for (int what : Edges.beyond(0, 6)) edges.refused("what " + what, Edges::few, o -> o.count(what), OUTSIDE);
    }

    private static void refusalsInOrder() {
        edges.says("REFUSALS, of several the first in this order");
        edges.refused("text: OUTSIDE ahead of FULL, writer", Edges::full, o -> o.text(10, 0), OUTSIDE);
        edges.refused("text: OUTSIDE ahead of FULL, day", Edges::full, o -> o.text(0, -1), OUTSIDE);
        edges.refused("word: UNKNOWN ahead of OUTSIDE", Edges::few, o -> o.word(3, 201), UNKNOWN);
        edges.refused("word: OUTSIDE ahead of FULL", Edges::full, o -> o.word(9, 0), OUTSIDE);
        edges.refused("word: UNKNOWN ahead of all", Edges::full, o -> o.word(10, 0), UNKNOWN);
        edges.refused("copy: UNKNOWN x ahead of OUTSIDE", Edges::few, o -> o.copy(3, 0, 0, 9), UNKNOWN);
        edges.refused("copy: UNKNOWN y ahead of OUTSIDE", Edges::few, o -> o.copy(0, -1, -1, -1), UNKNOWN);
        edges.refused("copy: OUTSIDE ahead of FULL", Edges::full, o -> o.copy(9, 0, 0, 60), OUTSIDE);
        edges.refused("copy: OUTSIDE (j below i) ahead of FULL", Edges::full, o -> o.copy(9, 0, 5, 4), OUTSIDE);
        edges.refused("copy: UNKNOWN ahead of FULL", Edges::full, o -> o.copy(9, 10, 0, 0), UNKNOWN);
        edges.refused("about: UNKNOWN ahead of OUTSIDE", Edges::few, o -> o.about(-1, 7), UNKNOWN);
        edges.refused("same: OUTSIDE ahead of NOT", Edges::few, o -> o.same(201, 201), OUTSIDE);
        edges.refused("mark: UNKNOWN x ahead of OUTSIDE", Edges::few, o -> o.mark(3, 0, -1, 0), UNKNOWN);
        edges.refused("mark: UNKNOWN y ahead of OUTSIDE", Edges::few, o -> o.mark(0, 0, 5, 3), UNKNOWN);
        edges.refused("mark: UNKNOWN of both, alike", Edges::few, o -> o.mark(3, 0, 0, 3), UNKNOWN);
        edges.refused("mark: OUTSIDE (i, j) ahead of FULL", Edges::full, o -> o.mark(9, 0, 60, NONE), OUTSIDE);
        edges.refused("mark: OUTSIDE (alike) ahead of FULL", Edges::full, o -> o.mark(9, 0, 0, 9), OUTSIDE);
        edges.refused("mark: UNKNOWN ahead of FULL", Edges::full, o -> o.mark(9, 0, 0, 10), UNKNOWN);
    }

    private static void aNewObjectHasNone() {
        edges.says("No TEXTS; RULES as at first");
        edges.is("word", new BorrowedWords().word(0, 1), UNKNOWN);
        edges.is("stop", new BorrowedWords().stop(0), UNKNOWN);
        edges.is("copy", new BorrowedWords().copy(0, 0, 0, 0), UNKNOWN);
        edges.is("about", new BorrowedWords().about(0, 0), UNKNOWN);
        edges.is("at", new BorrowedWords().at(0, 0), UNKNOWN);
        edges.is("mark", new BorrowedWords().mark(0, 0, 0, NONE), UNKNOWN);
        int[] first = {4, 0, 0, 1, 900, 10, 50};
        int[] days = {0, 1, 998, 999};
        for (int day : days) {
            for (int what = 0; what <= 6; what++) edges.is("day " + day + ", " + what, new BorrowedWords().force(what, day), first[what]);
        }
        edges.is("the bytes", new BorrowedWords().count(4), 0);
        edges.is("the fault", new BorrowedWords().fault(), NONE);
    }

    private static void lastOfAllCalls() {
        edges.says("An object is used for at most 512 calls after it has been made");
        BorrowedWords b = new BorrowedWords();
        for (int x = 0; x < 9; x++) b.text(0, x);
        for (int n = 0; n < 502; n++) b.word(n / 60, 1 + n % 60);
        edges.is("the 512th", b.word(8, 200), 23);
        BorrowedWords asked = Edges.few();
        for (int n = 0; n < 400; n++) asked.word(3, 1);
        edges.is("after many refused ones", asked.word(2, 1), 1);
    }
}
