/** The boundary cases of part 2, promises 13 to 16: each sentence that names one has a test of its own. */
final class EdgesRulesTest {
    private static final int NONE = Due.NONE, OUTSIDE = Due.OUTSIDE, FULL = Due.FULL;
    private static final String[] NUMBERED = {"least", "slips", "free", "light", "heavy"};
    private static final int[] WHATS = {0, 1, 4, 5, 6}, LOW = {2, 0, 0, 0, 0}, HIGH = {20, 3, 999, 100, 100};
    private static final String EIGHT = "free 1;free 2;free 3;free 4;free 5;free 6;free 7;free 8;";
    private static final Edges edges = new Edges();

    public static void main(String[] args) {
        eightRules();
        itStays();
        hundredAndTwentyBytes();
        readToTheLastByte();
        eightBytes();
        highestFirst();
        numberBounds();
        figures();
        letters();
        otherSigns();
        blanks();
        wordsSideBySide();
        clausesAreWhole();
        strikesOfRulesThatThereAre();
        strikesFromTheirDayOn();
        whichCount();
        theLastRules();
        firstFault();
        leastFault();
        faultAtTheEnd();
        ninthClause();
        emptyThen();
        latestFault();
        ruleDays();
        forceBounds();
        noClauses();
        edges.end();
    }

    /** What a text is read as on a new object: fault 0 is none. The text is gone either way. */
    private static void reads(String text, int fault, int place) {
        BorrowedWords b = new BorrowedWords();
        Due.feed(b, text);
        edges.is("'" + text + "'", b.rule(0), fault == 0 ? 0 : -10 - fault);
        edges.is("byte of '" + text + "'", b.fault(), place);
        edges.is("rules by '" + text + "'", b.count(3), fault == 0 ? 1 : 0);
        edges.is("left of '" + text + "'", b.count(4), 0);
    }

    private static void fine(String text) {
        reads(text, 0, NONE);
    }

    /** What holds by a text that is fine. */
    private static void sets(String text, int what, int value) {
        edges.is("'" + text + "' sets", Due.with(text).force(what, 0), value);
    }

    private static void eightRules() {
        edges.says("RULES (8 at most)");
        BorrowedWords b = new BorrowedWords();
        for (int r = 0; r < 7; r++) Due.rule(b, "least 5;", 0);
        edges.is("one with a fault is none", Due.rule(b, "least 1;", 0), -12);
        edges.is("the eighth", Due.rule(b, "least 6;", 0), 7);
        edges.is("it holds", b.force(0, 0), 6);
        edges.is("the ninth", Due.rule(b, "least 7;", 0), FULL);
        edges.is("it does not hold", b.force(0, 0), 6);
        edges.is("as many", b.count(3), 8);
    }

    /** Eight rules, and a text that is read. */
    private static BorrowedWords eightWith(String text) {
        BorrowedWords b = new BorrowedWords();
        for (int r = 0; r < 7; r++) b.rule(r);
        Due.rule(b, "heavy 7;", 3);
        Due.feed(b, text);
        return b;
    }

    private static void itStays() {
        edges.says("OUTSIDE, FULL (it stays)");
        String[] texts = {"", "least 5;", "least 1;", "x", EIGHT + "free 9;"};
        for (String text : texts) {
            edges.refused("a ninth rule '" + text + "'", () -> eightWith(text), o -> o.rule(0), FULL);
            edges.refused("a ninth rule of day 1000 '" + text + "'", () -> eightWith(text), o -> o.rule(1000), OUTSIDE);
            BorrowedWords b = eightWith(text);
            int bytes = b.count(4);
            b.rule(5);
            edges.is("bytes of '" + text + "'", b.count(4), bytes);
        }
    }

    private static void hundredAndTwentyBytes() {
        edges.says("texts (120 bytes at most each)");
        for (int n = 1; n <= 8; n++) {
            int more = n;
            BorrowedWords b = withBlanks(120 - n);
            edges.is("just " + n + " more", b.feed(n, 0x2020202020202020L), 120);
            edges.is("it is full", b.feed(1, 0x20L), FULL);
            edges.is("as many", b.count(4), 120);
            edges.refused(n + " where one less goes", () -> withBlanks(121 - more), o -> o.feed(more, 0x7878787878787878L), FULL);
            edges.refused(n + " on a full object", Edges::full, o -> o.feed(more, 0x7878787878787878L), FULL);
        }
        BorrowedWords next = withBlanks(120);
        edges.is("120 blanks", next.rule(0), 0);
        edges.is("room again", next.feed(8, 0x2020202020202020L), 8);
    }

    private static BorrowedWords withBlanks(int n) {
        BorrowedWords b = new BorrowedWords();
        for (int k = 0; k < n; k++) b.feed(1, ' ');
        return b;
    }

    private static void readToTheLastByte() {
        edges.says("FAULTS, at the first byte that has one (the end at the text's length)");
        String blanks = " ".repeat(112);
        fine(blanks + "least 9;");
        sets(blanks + "least 9;", 0, 9);
        reads(blanks + "least 9x", 1, 119);
        reads(blanks + "least  9", 1, 120);
        reads(blanks + "       x", 1, 119);
        reads(blanks + "  least ", 1, 120);
        reads(blanks + "   least", 1, 120);
        reads(blanks + "least  1", 2, 119);
        reads(blanks + "strike 0", 3, 119);
        reads(EIGHT + " ".repeat(60) + "free", 4, 116);
        reads("x" + " ".repeat(119), 1, 0);
        reads("9".repeat(120), 1, 0);
        reads("a".repeat(120), 1, 0);
        reads("free" + "9".repeat(116), 2, 4);
        reads("free" + "0".repeat(116), 2, 4);
    }

    private static void eightBytes() {
        edges.says("Up to eight bytes (n 1 .. 8) of a long");
        edges.is("one", new BorrowedWords().feed(1, 0), 1);
        edges.is("eight", new BorrowedWords().feed(8, 0), 8);
        for (int n : Edges.beyond(1, 8)) {
            edges.refused("n " + n, Edges::few, o -> o.feed(n, 0x2020202020202020L), OUTSIDE);
            edges.refused("n " + n + ": OUTSIDE ahead of FULL", Edges::full, o -> o.feed(n, 0x2020202020202020L), OUTSIDE);
        }
    }

    private static void highestFirst() {
        edges.says("the highest of these first, come behind the text that is read");
        String text = "least 9;";
        for (int n = 1; n <= 8; n++) {
            BorrowedWords b = new BorrowedWords();
            int fed = 0;
            while (fed < 8) {
                int more = Math.min(n, 8 - fed);
                long bytes = n % 2 == 0 ? 0 : -1;
                for (int k = 0; k < more; k++) bytes = bytes << 8 | text.charAt(fed + k);
                fed += more;
                edges.is("by " + n + ", so far", b.feed(more, bytes), fed);
            }
            edges.is("by " + n, b.rule(0), 0);
            edges.is("least by " + n, b.force(0, 0), 9);
        }
        BorrowedWords b = new BorrowedWords();
        b.feed(8, 0x20202020202020FFL);
        edges.is("the lowest byte is the last", b.rule(0), -11);
        edges.is("where it lies", b.fault(), 7);
        b.feed(8, 0xFF20202020202020L);
        edges.is("the highest byte is the first", b.rule(0), -11);
        edges.is("where that lies", b.fault(), 0);
        b.feed(7, 0xFF20202020202020L);
        edges.is("the eighth byte is none of seven", b.rule(0), 0);
        b.feed(1, 0xFFFFFFFFFFFFFF20L);
        edges.is("the others are none of one", b.rule(0), 1);
    }

    private static void numberBounds() {
        edges.says("least 4 (2 .. 20), slips 0 (0 .. 3), mean no, common yes, free 900 (0 .. 999), light 10 (0 .. 100), heavy 50 (0 .. 100)");
        for (int c = 0; c < NUMBERED.length; c++) {
            String word = NUMBERED[c] + " ";
            for (int number = LOW[c]; number <= HIGH[c]; number++) {
                boolean atTheEdge = number < LOW[c] + 2 || number > HIGH[c] - 2;
                if (atTheEdge) {
                    fine(word + number + ";");
                    sets(word + number + ";", WHATS[c], number);
                }
            }
            if (LOW[c] > 0) reads(word + (LOW[c] - 1) + ";", 2, word.length());
            if (LOW[c] > 0) reads(word + "0;", 2, word.length());
            reads(word + (HIGH[c] + 1) + ";", 2, word.length());
            if (HIGH[c] < 999) reads(word + "999;", 2, word.length());
            reads(word + "-1;", 1, word.length());
        }
        sets("mean yes;", 2, 1);
        sets("mean yes;mean no;", 2, 0);
        sets("common no;", 3, 0);
        sets("common no;common yes;", 3, 1);
    }

    private static void figures() {
        edges.says("NUMBERS have one to three figures");
        String[] three = {"free 5;", "free 05;", "free 005;"};
        for (String text : three) sets(text, 4, 5);
        sets("free 000;", 4, 0);
        sets("least 020;", 0, 20);
        sets("slips 003;", 1, 3);
        reads("free ;", 1, 5);
        reads("free 0005;", 2, 5);
        reads("free 9999;", 2, 5);
        reads("least 0004;", 2, 6);
        reads("light 0100;", 2, 6);
        reads("free 4294967301;", 2, 5);
        reads("free 18446744073709551621;", 2, 5);
        reads("slips -0;", 1, 6);
        reads("slips +0;", 1, 6);
        reads("slips 0.;", 1, 7);
    }

    private static void letters() {
        edges.says("words are letters a .. z side by side");
        reads("least`4;", 1, 5);
        reads("least{4;", 1, 5);
        reads("LEAST 4;", 1, 0);
        reads("leasT 4;", 1, 0);
        reads("aeast 4;", 1, 0);
        reads("leasa 4;", 1, 0);
        reads("mean zes;", 1, 5);
        reads("mean na;", 1, 5);
        reads("zleast 4;", 1, 0);
        reads("aleast 4;", 1, 0);
        reads("leasta 4;", 1, 0);
        reads("leastz 4;", 1, 0);
        reads("mean ayes;", 1, 5);
        reads("mean yesz;", 1, 5);
        reads("mean yes`;", 1, 8);
        reads("mean no{;", 1, 7);
        reads("mean YES;", 1, 5);
        reads("least" + (char) (97 + 128) + "4;", 1, 5);
    }

    /** Each byte that is no letter, figure, blank or ';' cannot stand anywhere. */
    private static void otherSigns() {
        edges.says("1 it cannot stand there");
        for (int sign = 0; sign < 256; sign++) {
            boolean isLetter = sign >= 'a' && sign <= 'z';
            boolean isFigure = sign >= '0' && sign <= '9';
            if (isLetter || isFigure || sign == ' ' || sign == ';') continue;
            BorrowedWords b = new BorrowedWords();
            int[] places = {0, 5, 7, 8};
            for (int place : places) {
                String text = "least 4;";
                Due.feed(b, text.substring(0, place) + (char) sign + text.substring(place));
                edges.is("sign " + sign + " at " + place, b.rule(0), -11);
                edges.is("where sign " + sign + " lies", b.fault(), place);
            }
        }
        reads(";", 1, 0);
        reads("least 4;;", 1, 8);
        reads("least;4;", 1, 5);
        reads("4;", 1, 0);
        reads("least 4;4", 1, 8);
        reads("least 4 4;", 1, 8);
        reads("least least 4;", 1, 6);
        reads("mean no no;", 1, 8);
        reads("mean 0;", 1, 5);
        reads("light yes;", 1, 6);
        reads("yes;", 1, 0);
    }

    private static void blanks() {
        edges.says("blanks (32) may stand anywhere but within words and NUMBERS");
        sets("least9;", 0, 9);
        sets("   least   9   ;   ", 0, 9);
        sets("least 9;slips 2;", 1, 2);
        sets("least 9 ; slips 2 ; ", 1, 2);
        fine(" ");
        fine("mean no;");
        fine(" mean  no ; ");
        reads("le ast 9;", 1, 0);
        reads("l", 1, 0);
        reads("mean y es;", 1, 5);
        reads("free 9 9;", 1, 7);
        reads("least 2 0;", 1, 8);
        reads("least 1 9;", 2, 6);
        reads("free 1 000;", 1, 7);
        reads("least" + (char) 31 + "9;", 1, 5);
        reads("least!9;", 1, 5);
        reads("least\t9;", 1, 5);
        reads("least\n9;", 1, 5);
    }

    private static void wordsSideBySide() {
        edges.says("two words side by side need one");
        fine("mean yes;");
        reads("meanyes;", 1, 0);
        reads("commonno;", 1, 0);
        reads("mean yesmean no;", 1, 5);
        reads("mean yes mean no;", 1, 9);
        fine("mean yes;mean no;");
        fine("least4;mean no;");
        reads("least4mean no;", 1, 6);
        reads("least 4 mean no;", 1, 8);
        reads("mean yes4;", 1, 8);
    }

    /** What is left out of a clause is missed at the byte where it should stand. */
    private static void clausesAreWhole() {
        edges.says("clause = 'least' N ';'   'slips' N ';'   'mean' yes ';'   'common' yes ';'   'free' N ';'   'light' N ';'   'heavy' N ';'   'strike' N ';'");
        String[] words = {"least", "slips", "free", "light", "heavy"};
        for (String word : words) {
            fine(word + " 3;");
            reads(word, 1, word.length());
            reads(word + ";", 1, word.length());
            reads(word + " 3", 1, word.length() + 2);
            reads(word.substring(1) + " 3;", 1, 0);
            reads(word.substring(0, word.length() - 1) + " 3;", 1, 0);
            reads(word + " no;", 1, word.length() + 1);
        }
        String[] yesWords = {"mean", "common"};
        for (String word : yesWords) {
            fine(word + " yes;");
            fine(word + " no;");
            reads(word, 1, word.length());
            reads(word + ";", 1, word.length());
            reads(word + " yes", 1, word.length() + 4);
            reads(word + " ye;", 1, word.length() + 1);
            reads(word + " n;", 1, word.length() + 1);
            reads(word + " 1;", 1, word.length() + 1);
        }
        reads("strike", 1, 6);
        reads("strike;", 1, 6);
        reads("strike no;", 1, 7);
    }

    private static void strikesOfRulesThatThereAre() {
        edges.says("3 a strike of a RULE that there is not (at its first)");
        BorrowedWords b = new BorrowedWords();
        for (int rules = 0; rules < 8; rules++) {
            edges.is("strike " + rules + " of " + rules, Due.rule(b, "strike  " + rules + ";", 0), -13);
            edges.is("its byte", b.fault(), 8);
            edges.is("strike 999 of " + rules, Due.rule(b, "strike 999;", 0), -13);
            edges.is("its byte", b.fault(), 7);
            if (rules > 0) edges.is("strike " + (rules - 1), Due.rule(b, "strike 00" + (rules - 1) + ";", 0), rules);
            else edges.is("the first rule", b.rule(0), 0);
        }
        edges.is("all eight", b.count(3), 8);
        reads("strike 0", 3, 7);
        reads("strike 0000;", 2, 7);
        reads("strike 1000;", 2, 7);
    }

    private static void strikesFromTheirDayOn() {
        edges.says("no clause of RULE k (one that there is already) holds from the DAY of this one on");
        BorrowedWords b = new BorrowedWords();
        Due.rule(b, "least 9;slips 3;mean yes;common no;free 9;light 9;heavy 9;", 0);
        Due.rule(b, "strike 0;", 999);
        int[] all = {9, 3, 1, 0, 9, 9, 9};
        int[] first = {4, 0, 0, 1, 900, 10, 50};
        for (int what = 0; what <= 6; what++) {
            edges.is("ahead of that day, " + what, b.force(what, 998), all[what]);
            edges.is("on that day, " + what, b.force(what, 999), first[what]);
        }
        BorrowedWords early = new BorrowedWords();
        Due.rule(early, "least 9;", 5);
        Due.rule(early, "strike 0;", 0);
        edges.is("struck ahead of its own day", early.force(0, 4), 4);
        edges.is("and on it", early.force(0, 5), 4);
        BorrowedWords same = new BorrowedWords();
        Due.rule(same, "least 9;", 5);
        Due.rule(same, "strike 0;least 8;", 5);
        edges.is("the day ahead", same.force(0, 4), 4);
        edges.is("of the same day", same.force(0, 5), 8);
        BorrowedWords twice = new BorrowedWords();
        Due.rule(twice, "least 9;", 0);
        Due.rule(twice, "strike 0;strike 0;", 0);
        edges.is("twice is once", twice.force(0, 0), 4);
    }

    /** Eight rules, each but the first strikes the one ahead of it: they count by turns. */
    private static void whichCount() {
        edges.says("of RULES whose DAY is not after it, from the last number down, one that is not struck by one that counts, counts");
        BorrowedWords b = new BorrowedWords();
        Due.rule(b, "least 9;", 0);
        for (int r = 1; r < 8; r++) Due.rule(b, "strike " + (r - 1) + ";", 10 * r);
        for (int r = 1; r < 8; r++) {
            edges.is("the day ahead of rule " + r, b.force(0, 10 * r - 1), r % 2 == 1 ? 9 : 4);
            edges.is("the day of rule " + r, b.force(0, 10 * r), r % 2 == 1 ? 4 : 9);
        }
        BorrowedWords late = new BorrowedWords();
        Due.rule(late, "least 9;", 0);
        Due.rule(late, "strike 0;", 20);
        Due.rule(late, "strike 1;", 10);
        edges.is("the striking one is struck ahead of its day", late.force(0, 20), 9);
        BorrowedWords all = new BorrowedWords();
        for (int r = 0; r < 7; r++) Due.rule(all, "least 9;", 0);
        Due.rule(all, "strike 0;strike 1;strike 2;strike 3;strike 4;strike 5;strike 6;", 1);
        edges.is("ahead", all.force(0, 0), 9);
        edges.is("seven are struck by the eighth", all.force(0, 1), 4);
        BorrowedWords each = new BorrowedWords();
        Due.rule(each, "least 9;", 0);
        Due.rule(each, "slips 2;", 0);
        Due.rule(each, "strike 1;", 0);
        Due.rule(each, "strike 0;", 0);
        edges.is("struck by the later one", each.force(0, 0), 4);
        edges.is("struck by the earlier one", each.force(1, 0), 0);
        BorrowedWords none = new BorrowedWords();
        Due.rule(none, "least 9;", 999);
        edges.is("a day ahead of all", none.force(0, 998), 4);
        edges.is("the last day", none.force(0, 999), 9);
    }

    private static void theLastRules() {
        edges.says("They follow one another by DAYS, then numbers; the last rules");
        BorrowedWords b = new BorrowedWords();
        Due.rule(b, "least 5;", 6);
        Due.rule(b, "least 6;", 5);
        edges.is("of an earlier day, though of a later number", b.force(0, 6), 5);
        edges.is("on that day", b.force(0, 5), 6);
        Due.rule(b, "least 7;", 6);
        edges.is("of the same day, the later number", b.force(0, 6), 7);
        Due.rule(b, "least 8;", 7);
        edges.is("the day ahead", b.force(0, 6), 7);
        edges.is("of a later day", b.force(0, 7), 8);
        Due.rule(b, "slips 1;", 8);
        edges.is("one that says nothing of it", b.force(0, 8), 8);
        BorrowedWords zero = new BorrowedWords();
        Due.rule(zero, "slips 3;free 9;", 0);
        Due.rule(zero, "slips 0;free 0;", 0);
        edges.is("0 holds as any other", zero.force(1, 0), 0);
        edges.is("free 0 holds as any other", zero.force(4, 0), 0);
        sets("least 20;least 2;", 0, 2);
    }

    private static void firstFault() {
        edges.says("FAULTS, at the first byte that has one");
        reads("least 1;x", 2, 6);
        reads("x;least 1;", 1, 0);
        reads("strike 0;least 1;", 3, 7);
        reads("least 1;strike 0;", 2, 6);
        reads("strike 0x", 3, 7);
        reads("least 1x", 2, 6);
        reads("least 99999", 2, 6);
        reads(EIGHT + "free x", 4, 56);
        reads("free x" + EIGHT, 1, 5);
        reads("free 1000;" + EIGHT, 2, 5);
    }

    private static void leastFault() {
        edges.says("of these the least");
        reads("mean 1000;", 1, 5);
        reads("1000;", 1, 0);
        reads("strike 1000;", 2, 7);
        reads(EIGHT + "frees 1;", 1, 56);
        reads(EIGHT + "1000;", 1, 56);
        reads(EIGHT + ";", 1, 56);
        reads(EIGHT + "yes", 1, 56);
        reads(EIGHT + "strike 9;", 4, 56);
    }

    private static void faultAtTheEnd() {
        edges.says("(the end at the text's length)");
        reads("least", 1, 5);
        reads("least ", 1, 6);
        reads("least 4", 1, 7);
        reads("least 4 ", 1, 8);
        reads("mean", 1, 4);
        reads("mean no", 1, 7);
        reads("mean no  ", 1, 9);
        reads("least 4;slips", 1, 13);
    }

    private static void ninthClause() {
        edges.says("4 a ninth clause (at its first letter)");
        String[] words = {"least 4;", "slips 0;", "mean no;", "common no;", "free 9;", "light 9;", "heavy 9;", "strike 0;"};
        fine(EIGHT);
        fine(EIGHT + "  ");
        for (String word : words) reads(EIGHT + " " + word, 4, 57);
        reads(EIGHT + "least", 4, 56);
        reads(EIGHT + "least 1;", 4, 56);
        reads("  " + EIGHT + EIGHT, 4, 58);
        StringBuilder strikes = new StringBuilder();
        for (int n = 0; n < 8; n++) strikes.append("strike 0;");
        BorrowedWords b = new BorrowedWords();
        b.rule(0);
        edges.is("nine strikes", Due.rule(b, strikes + "strike 0;", 0), -14);
        edges.is("the ninth", b.fault(), 72);
        edges.is("eight strikes", Due.rule(b, strikes.toString(), 0), 1);
    }

    private static void emptyThen() {
        edges.says("That text (it is empty then) becomes a RULE");
        BorrowedWords b = new BorrowedWords();
        Due.rule(b, "least 9;", 0);
        edges.is("empty after a rule", b.count(4), 0);
        Due.rule(b, "least 1;", 0);
        edges.is("empty after a fault", b.count(4), 0);
        edges.is("a text behind that is read from its begin", Due.rule(b, "slips 2;", 0), 1);
        edges.is("it sets", b.force(1, 0), 2);
        edges.is("nothing of the one with the fault", b.force(0, 0), 9);
        Due.rule(b, "slips 1;least 1;", 0);
        edges.is("nothing of what stands ahead of a fault", b.force(1, 0), 2);
        Due.rule(b, "strike 0;strike 2;", 0);
        edges.is("no strike ahead of a fault", b.force(0, 0), 9);
        edges.is("an empty one", b.rule(0), 2);
        edges.is("sets nothing", b.force(1, 0) * 10 + b.force(0, 0), 29);
    }

    private static void latestFault() {
        edges.says("The byte of the FAULT of the latest rule() that was not refused otherwise; NONE");
        BorrowedWords b = new BorrowedWords();
        edges.is("none yet", b.fault(), NONE);
        b.rule(-1);
        edges.is("none by a refused one", b.fault(), NONE);
        Due.rule(b, "x", 0);
        edges.is("at byte 0", b.fault(), 0);
        Due.feed(b, "   x");
        edges.is("refused", b.rule(1000), OUTSIDE);
        edges.is("that of the latest one still", b.fault(), 0);
        b.rule(0);
        edges.is("at byte 3", b.fault(), 3);
        for (int r = 0; r < 8; r++) {
            b.rule(0);
            edges.is("none any more", b.fault(), NONE);
        }
        Due.feed(b, "x");
        edges.is("full", b.rule(0), FULL);
        edges.is("none by a full one", b.fault(), NONE);
    }

    private static void ruleDays() {
        edges.says("becomes a RULE, in force from a DAY (0 .. 999) on");
        for (int day : Edges.beyond(0, 999)) edges.refused("day " + day, Edges::few, o -> o.rule(day), OUTSIDE);
        for (int day : Edges.beyond(0, 999)) edges.refused("day " + day + ": OUTSIDE ahead of FULL", Edges::full, o -> o.rule(day), OUTSIDE);
        edges.refused("a fault of no day is not read", () -> eightWith("x"), o -> o.rule(-1), OUTSIDE);
        BorrowedWords b = new BorrowedWords();
        edges.is("day 0", Due.rule(b, "least 9;", 0), 0);
        edges.is("it holds on day 0", b.force(0, 0), 9);
        edges.is("and on day 999", b.force(0, 999), 9);
        edges.is("day 999", Due.rule(b, "least 8;", 999), 1);
        edges.is("it holds on day 999", b.force(0, 999), 8);
        edges.is("not the day ahead", b.force(0, 998), 9);
    }

    private static void forceBounds() {
        edges.says("What holds on a DAY: what = 0 least, 1 slips, 2 mean, 3 common (1, 0), 4 free, 5 light, 6 heavy. OUTSIDE");
        for (int what : Edges.beyond(0, 6)) edges.refused("what " + what, Edges::few, o -> o.force(what, 0), OUTSIDE);
        for (int day : Edges.beyond(0, 999)) edges.refused("day " + day, Edges::few, o -> o.force(0, day), OUTSIDE);
        edges.refused("both", Edges::few, o -> o.force(7, 1000), OUTSIDE);
        BorrowedWords b = Due.with("least 20;slips 3;mean yes;common no;free 999;light 100;heavy 100;");
        int[] most = {20, 3, 1, 0, 999, 100, 100};
        for (int what = 0; what <= 6; what++) edges.is("the most, " + what, b.force(what, 999), most[what]);
        Due.rule(b, "least 2;slips 0;mean no;common yes;free 0;light 0;heavy 0;", 0);
        int[] least = {2, 0, 0, 1, 0, 0, 0};
        for (int what = 0; what <= 6; what++) edges.is("the least, " + what, b.force(what, 0), least[what]);
    }

    private static void noClauses() {
        edges.says("RULES (8 at most) are texts");
        fine("");
        fine(" ");
        fine(" ".repeat(120));
        BorrowedWords b = new BorrowedWords();
        int[] first = {4, 0, 0, 1, 900, 10, 50};
        b.rule(0);
        for (int what = 0; what <= 6; what++) edges.is("a rule without clauses, " + what, b.force(what, 0), first[what]);
    }
}
