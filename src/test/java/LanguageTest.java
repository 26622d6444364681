import java.lang.reflect.Constructor;
import java.lang.reflect.Field;
import java.lang.reflect.Method;
import java.lang.reflect.Modifier;
import java.nio.file.Files;
import java.nio.file.Path;
import java.util.HashSet;
import java.util.Set;
import java.util.TreeSet;
import java.util.regex.Matcher;
import java.util.regex.Pattern;

/** The rules of LANGUAGE.md that can be seen in the source or in the compiled class. */
final class LanguageTest {
    private static final Due due = new Due();
    private static final String FACE = "about at common copy count family fault feed fewest first force hangs judged likeness mark moved nearest"
        + " passed piece reach rows rule same sources sprung stands stop text word";
    private static final int MOST_CLASSES = 12, MOST_FIELDS = 20, MOST_PARAMETERS = 7, MOST_LINES = 60;

    public static void main(String[] args) throws Exception {
        String source = Files.readString(Path.of("src/main/java/BorrowedWords.java"));
        String code = source.replaceAll("(?s)/\\*.*?\\*/", " ").replaceAll("//[^\n]*", " ");
        face();
        classesInside();
        words(code.replaceAll("\"[^\"\n]*\"", "\"\""));
        methodLengths(code);
        due.is("signs beyond 127", source.chars().filter(c -> c > 127).count(), 0);
        due.end();
    }

    private static void face() {
        Class<?> c = BorrowedWords.class;
        due.is("public and final", c.getModifiers() & (Modifier.PUBLIC | Modifier.FINAL), Modifier.PUBLIC | Modifier.FINAL);
        Set<String> open = new TreeSet<>();
        for (Method m : c.getDeclaredMethods()) {
            if (Modifier.isPublic(m.getModifiers())) open.add(m.getName());
            else due.is(m + " is private", m.getModifiers() & Modifier.PRIVATE, Modifier.PRIVATE);
        }
        due.is("methods of the face: " + open, String.join(" ", open).equals(FACE) ? 1 : 0, 1);
        for (Constructor<?> k : c.getDeclaredConstructors()) due.is("" + k, k.getParameterCount(), 0);
        Set<String> constants = Set.of("NONE", "UNKNOWN", "OUTSIDE", "NOT", "FULL");
        for (Field f : c.getDeclaredFields()) {
            int must = constants.contains(f.getName()) ? Modifier.PUBLIC | Modifier.STATIC | Modifier.FINAL : Modifier.PRIVATE;
            due.is("" + f, f.getModifiers() & must, must);
        }
    }

    private static void classesInside() {
        Set<String> faceNames = new HashSet<>(Set.of(FACE.split(" ")));
        due.is("classes", BorrowedWords.class.getDeclaredClasses().length + 1 <= MOST_CLASSES ? 1 : 0, 1);
        limits(BorrowedWords.class);
        for (Class<?> c : BorrowedWords.class.getDeclaredClasses()) {
            due.is(c + " is static", c.getModifiers() & Modifier.STATIC, Modifier.STATIC);
            due.is(c + " is not public", c.getModifiers() & (Modifier.PUBLIC | Modifier.PROTECTED), 0);
            for (Method m : c.getDeclaredMethods()) due.is(m + " bears no name of the face", faceNames.contains(m.getName()) ? 1 : 0, 0);
            limits(c);
        }
    }

    private static void limits(Class<?> c) {
        int fields = 0;
        for (Field f : c.getDeclaredFields()) {
            if (!Modifier.isStatic(f.getModifiers())) fields++;
            else due.is(f + " is final", f.getModifiers() & Modifier.FINAL, Modifier.FINAL);
        }
        due.is("fields of " + c + ": " + fields, fields <= MOST_FIELDS ? 1 : 0, 1);
        for (Method m : c.getDeclaredMethods()) due.is("parameters of " + m, m.getParameterCount() <= MOST_PARAMETERS ? 1 : 0, 1);
    }

    private static void words(String code) {
        String[] ruledOut = {"throw", "throws", "try", "catch", "synchronized", "assert", "package", "import", "equals", "hashCode", "toString", "System",
            "Random", "Thread", "HashMap", "->", "::", "protected", "volatile", "native", "double", "float"};
        for (String word : ruledOut) {
            String pattern = Character.isLetter(word.charAt(0)) ? "\\b" + word + "\\b" : Pattern.quote(word);
            due.is("'" + word + "' in the source", Pattern.compile(pattern).matcher(code).find() ? 1 : 0, 0);
        }
        Matcher library = Pattern.compile("\\b(Math|Integer|Long)\\.(\\w+)").matcher(code);
        Set<String> used = new TreeSet<>();
        while (library.find()) used.add(library.group());
        used.removeAll(Set.of("Math.min", "Math.max", "Integer.bitCount", "Long.bitCount"));
        due.is("of the library: " + used, used.size(), 0);
    }

    /** A method begins with a line that ends in '{' four or eight blanks in, and ends with a lone '}' as far in. */
    private static void methodLengths(String code) {
        String[] lines = code.split("\n");
        for (int i = 0; i < lines.length; i++) {
            Matcher head = Pattern.compile("^( {4}| {8})\\w[^;=]*\\) \\{$").matcher(lines[i]);
            if (!head.matches()) continue;
            int end = i;
            while (end < lines.length && !lines[end].equals(head.group(1) + "}")) end++;
            due.is("lines of " + lines[i].trim() + " " + (end - i + 1), end - i + 1 <= MOST_LINES ? 1 : 0, 1);
        }
    }
}
