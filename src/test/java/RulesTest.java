/** Promises 13 to 16: rules. */
final class RulesTest {
    private static final Due due = new Due();

    public static void main(String[] args) {
        feeding();
        numbering();
        wellFormed();
        cannotStand();
        badNumbers();
        badStrikes();
        ninthClauses();
        refusals();
        forceByDays();
        strikes();
        due.end();
    }

    private static void feeding() {
        BorrowedWords b = new BorrowedWords();
        due.is("n 0", b.feed(0, 0), Due.OUTSIDE);
        due.is("n 9", b.feed(9, 0), Due.OUTSIDE);
        due.is("highest of these first, higher bytes left out", b.feed(3, 0x7878_6c65_61L), 3);
        due.is("eight", b.feed(8, 0x7374_2037_3b20_2020L), 11);
        due.is("bytes", b.count(4), 11);
        due.is("read", b.rule(0), 0);
        due.is("least 7", b.force(0, 0), 7);
        for (int n = 8; n <= 112; n += 8) due.is("fed " + n, b.feed(8, 0x2020202020202020L), n);
        due.is("seven more", b.feed(7, 0x20202020202020L), 119);
        due.is("two too many", b.feed(2, 0x2020L), Due.FULL);
        due.is("outside ahead of full", b.feed(9, 0x2020L), Due.OUTSIDE);
        due.is("nothing is changed", b.count(4), 119);
        due.is("the last byte", b.feed(1, 0x20L), 120);
        due.is("full", b.feed(1, 0x20L), Due.FULL);
        due.is("120 blanks are a rule", b.rule(0), 1);
        due.is("it is empty then", b.count(4), 0);
    }

    private static void numbering() {
        BorrowedWords b = new BorrowedWords();
        for (int r = 0; r < 4; r++) due.is("rule " + r, Due.rule(b, "", 5 - r), r);
        due.is("rules", b.count(3), 4);
        due.is("a fault makes no rule", Due.rule(b, "x", 0), -11);
        due.is("as many", b.count(3), 4);
        due.is("rule 4", Due.rule(b, "least 2;", 0), 4);
    }

    /** The text's answer (0: it is a rule) and the fault's byte. */
    private static void reads(String text, int fault, int place) {
        BorrowedWords b = new BorrowedWords();
        Due.feed(b, text);
        due.is("'" + text + "'", b.rule(0), fault == 0 ? 0 : -10 - fault);
        due.is("byte of '" + text + "'", b.fault(), place);
        due.is("left of '" + text + "'", b.count(4), 0);
        due.is("rules after '" + text + "'", b.count(3), fault == 0 ? 1 : 0);
    }

    private static void wellFormed() {
        reads("", 0, Due.NONE);
        reads("   ", 0, Due.NONE);
        reads("least4;", 0, Due.NONE);
        reads("  least  4  ;  ", 0, Due.NONE);
        reads("least 2;least 20;slips0;slips 3;mean yes;mean no;common no;common yes;", 0, Due.NONE);
        reads("free 0;free 999;light 0;light 100;heavy 0;heavy 100;", 0, Due.NONE);
        reads("least 002;free 000;", 0, Due.NONE);
    }

    private static void cannotStand() {
        reads("least 4", 1, 7);
        reads("least", 1, 5);
        reads("least ", 1, 6);
        reads("mean", 1, 4);
        reads("mean yes", 1, 8);
        reads(";", 1, 0);
        reads("least 4;;", 1, 8);
        reads(" 4;", 1, 1);
        reads("yes;", 1, 0);
        reads("no", 1, 0);
        reads("least yes;", 1, 6);
        reads("mean 1;", 1, 5);
        reads("mean 1000;", 1, 5);
        reads("mean maybe;", 1, 5);
        reads("mean yesno;", 1, 5);
        reads("meanyes;", 1, 0);
        reads("mean yes no;", 1, 9);
        reads("mean;", 1, 4);
        reads("least 4 4;", 1, 8);
        reads("least 1 2", 2, 6);
        reads("least 4 1000;", 1, 8);
        reads("least 4x;", 1, 7);
        reads("least 4 least 4;", 1, 8);
        reads("leas 4;", 1, 0);
        reads("leastt 4;", 1, 0);
        reads("le ast 4;", 1, 0);
        reads("leastz 4;", 1, 0);
        reads("heast 4;", 1, 0);
        reads("mean zo;", 1, 5);
        reads("least_4;", 1, 5);
        reads("Least 4;", 1, 0);
        reads("least\t4;", 1, 5);
        reads("least 4;\0", 1, 8);
        reads("mean ye" + (char) 243 + ";", 1, 5);
        reads("mean yes" + (char) 243, 1, 8);
        reads("least 4;" + (char) 160, 1, 8);
        reads("least -4;", 1, 6);
        reads("abcdefghijklmnopqrstuvwxyzabcdefghijklmnopqrstuvwxyz", 1, 0);
        reads("strike ;", 1, 7);
        reads("strike yes;", 1, 7);
    }

    private static void badNumbers() {
        reads("least 1;", 2, 6);
        reads("least 21;", 2, 6);
        reads("slips 4;", 2, 6);
        reads("light 101;", 2, 6);
        reads("heavy  101;", 2, 7);
        reads("free 1000;", 2, 5);
        reads("free 0001;", 2, 5);
        reads("least 0004", 2, 6);
        reads("free 99999999999999999999;", 2, 5);
        reads("free 4294967296;", 2, 5);
        reads("strike 0000;", 2, 7);
        reads("least 4;slips 9;least 1;", 2, 14);
        reads("least 1x", 2, 6);
    }

    private static void badStrikes() {
        reads("strike 0;", 3, 7);
        reads("strike 999;", 3, 7);
        reads("strike 0x", 3, 7);
        BorrowedWords b = new BorrowedWords();
        Due.rule(b, "least 2;", 0);
        due.is("strike of itself", Due.rule(b, "strike 1;", 0), -13);
        due.is("its byte", b.fault(), 7);
        due.is("strike 0", Due.rule(b, "strike 0;", 0), 1);
        due.is("no fault any more", b.fault(), Due.NONE);
        due.is("twice", Due.rule(b, "strike 0;strike 1;strike 000;", 0), 2);
    }

    private static void ninthClauses() {
        String eight = "free 1;free 2;free 3;free 4;free 5;free 6;free 7;free 8;";
        reads(eight, 0, Due.NONE);
        reads(eight + "   ", 0, Due.NONE);
        reads(eight + "free 9;", 4, 56);
        reads(eight + "  free", 4, 58);
        reads(eight + "  free 1000;", 4, 58);
        reads(eight + "frees 9;", 1, 56);
        reads(eight + "yes", 1, 56);
        reads(eight + ";", 1, 56);
        reads(eight + "9", 1, 56);
    }

    private static void refusals() {
        BorrowedWords b = new BorrowedWords();
        Due.rule(b, "x", 0);
        Due.feed(b, "  y");
        due.is("day -1", b.rule(-1), Due.OUTSIDE);
        due.is("day 1000", b.rule(1000), Due.OUTSIDE);
        due.is("the text stays", b.count(4), 3);
        due.is("the fault stays", b.fault(), 0);
        due.is("last day", b.rule(999), -11);
        due.is("the fault of that", b.fault(), 2);
        for (int r = 0; r < 8; r++) due.is("rule " + r, b.rule(r), r);
        Due.feed(b, "least 1;");
        due.is("ninth rule", b.rule(0), Due.FULL);
        due.is("ninth rule, outside", b.rule(1000), Due.OUTSIDE);
        due.is("it stays", b.count(4), 8);
        due.is("no fault of it", b.fault(), Due.NONE);
    }

    private static void forceByDays() {
        BorrowedWords b = new BorrowedWords();
        Due.rule(b, "least 9;least 8;mean yes;common no;slips 2;", 10);
        Due.rule(b, "least 7;light 20;heavy 30;", 5);
        Due.rule(b, "least 6;free 5;mean no;", 10);
        int[] before = {4, 0, 0, 1, 900, 10, 50};
        int[] fifth = {7, 0, 0, 1, 900, 20, 30};
        int[] tenth = {6, 2, 0, 0, 5, 20, 30};
        for (int what = 0; what <= 6; what++) {
            due.is("day 4, " + what, b.force(what, 4), before[what]);
            due.is("day 5, " + what, b.force(what, 5), fifth[what]);
            due.is("day 9, " + what, b.force(what, 9), fifth[what]);
            due.is("day 10, " + what, b.force(what, 10), tenth[what]);
            due.is("day 999, " + what, b.force(what, 999), tenth[what]);
        }
        due.is("what -1", b.force(-1, 0), Due.OUTSIDE);
        due.is("what 7", b.force(7, 0), Due.OUTSIDE);
        due.is("day -1", b.force(0, -1), Due.OUTSIDE);
        due.is("day 1000", b.force(0, 1000), Due.OUTSIDE);
        Due.rule(b, "least 11;", 7);
        due.is("a later number of an earlier day", b.force(0, 12), 6);
        due.is("between", b.force(0, 8), 11);
        BorrowedWords last = Due.with("least 9;least 8;");
        due.is("the last clause rules", last.force(0, 0), 8);
    }

    private static void strikes() {
        BorrowedWords b = new BorrowedWords();
        Due.rule(b, "least 9;", 0);
        Due.rule(b, "strike 0;slips 1;", 10);
        due.is("ahead of its day", b.force(0, 9), 9);
        due.is("struck", b.force(0, 10), 4);
        due.is("slips", b.force(1, 10), 1);
        Due.rule(b, "strike 1;", 20);
        due.is("not yet struck", b.force(0, 19), 4);
        due.is("what it struck holds again", b.force(0, 20), 9);
        due.is("and its clauses do not", b.force(1, 20), 0);
        Due.rule(b, "strike 2;", 15);
        due.is("day 14", b.force(0, 14), 4);
        due.is("the striking one is struck", b.force(0, 20), 4);
        due.is("so that 1 counts", b.force(1, 20), 1);
        BorrowedWords later = new BorrowedWords();
        Due.rule(later, "least 9;", 10);
        Due.rule(later, "strike 0;", 5);
        due.is("struck ahead of its own day", later.force(0, 10), 4);
        Due.rule(later, "strike 0;strike 1;light 7;", 30);
        due.is("both struck", later.force(0, 30), 4);
        due.is("light", later.force(5, 30), 7);
    }
}
