import java.nio.file.Files;
import java.nio.file.Path;
import java.util.ArrayList;
import java.util.List;

/** What README.md says of the use of the class: its lines stand here too, and answer as they tell. */
final class ReadmeTest {
    private static final Due due = new Due();

    public static void main(String[] args) throws Exception {
        List<String> told = linesBetween("README.md", "```java", "```");
        List<String> run = linesBetween("src/test/java/ReadmeTest.java", "// as in README.md", "// and what is due");
        due.is("the lines of README.md " + told + " are those that are run " + run, told.equals(run) ? 1 : 0, 1);
        due.is("there are some", told.isEmpty() ? 0 : 1, 1);
        use();
        due.end();
    }

    /** The lines of all parts that begin and end with such lines, without blanks ahead. */
    private static List<String> linesBetween(String file, String first, String last) throws Exception {
        List<String> lines = new ArrayList<>();
        boolean within = false;
        for (String line : Files.readAllLines(Path.of(file))) {
            if (line.trim().equals(last)) within = false;
            if (within) lines.add(line.trim());
            if (line.trim().equals(first)) within = true;
        }
        return lines;
    }

    private static void use() {
        // as in README.md
        BorrowedWords b = new BorrowedWords();
        int old = b.text(1, 10);                            // writer 1, day 10: text 0
        for (int w = 1; w <= 6; w++) b.word(old, w);
        b.stop(old);                                        // a sentence ends
        int young = b.text(2, 20);                          // text 1
        b.copy(young, old, 0, 4);                           // words 0 to 4 of the older one
        b.word(young, 99);
        int known = b.count(0);                             // all texts are known
        int verdict = b.judged(young, known, 3);            // 4: heavy
        int decisive = b.hangs(young, known);               // 1: the set of text 0 alone
        int pieces = b.piece(young, known, BorrowedWords.NONE, 0);  // 1
        int size = b.piece(young, known, 0, 1);             // 5 words
        int owner = b.first(young, 2, 0);                   // text 0 had word 2 first
        b.mark(young, 0, 4, old);                           // cited rightly
        int cited = b.judged(young, known, 3);              // 1: cited
        // and what is due
        due.is("old", old, 0);
        due.is("young", young, 1);
        due.is("known", known, 2);
        due.is("verdict", verdict, 4);
        due.is("decisive", decisive, 1);
        due.is("pieces", pieces, 1);
        due.is("size", size, 5);
        due.is("owner", owner, 0);
        due.is("the mark is right", b.stands(0), 0);
        due.is("cited", cited, 1);
        // as in README.md
        String text = "least 6; light 20;";
        for (int i = 0; i < text.length(); i++) b.feed(1, text.charAt(i));
        int rule = b.rule(15);                              // rule 0, from day 15 on
        int before = b.force(0, 14);                        // 4 words at least, as at first
        int since = b.force(0, 15);                         // 6
        int own = b.judged(young, known, 3);                // 0: five words are too few now
        b.feed(7, 0x6c656173743f3bL);                       // "least?;"
        int refused = b.rule(15);                           // -11: fault 1
        int where = b.fault();                              // byte 5
        // and what is due
        due.is("rule", rule, 0);
        due.is("before", before, 4);
        due.is("since", since, 6);
        due.is("light", b.force(5, 15), 20);
        due.is("own", own, 0);
        due.is("refused", refused, -11);
        due.is("where", where, 5);
    }
}
