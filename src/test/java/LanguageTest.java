import java.lang.reflect.Constructor;
import java.lang.reflect.Field;
import java.lang.reflect.Method;
import java.lang.reflect.Modifier;
import java.nio.file.Files;
import java.nio.file.Path;
import java.util.ArrayList;
import java.util.HashSet;
import java.util.List;
import java.util.Set;
import java.util.TreeSet;
import java.util.regex.Matcher;
import java.util.regex.Pattern;

/** The rules of LANGUAGE.md that can be seen in the source or in the compiled class. */
final class LanguageTest {
    private static final Due due = new Due();
    private static final Pattern METHOD = Pattern.compile("public int (\\w+)\\(([^)]*)\\);");
    private static final Pattern CONSTANT = Pattern.compile("\\b([A-Z]+) = (-?\\d+)");
    private static final int MOST_CLASSES = 12, MOST_FIELDS = 20, MOST_PARAMETERS = 7, MOST_LINES = 60;

    public static void main(String[] args) throws Exception {
        String source = Files.readString(Path.of("src/main/java/BorrowedWords.java"));
        String code = source.replaceAll("(?s)/\\*.*?\\*/", " ").replaceAll("//[^\n]*", " ");
        String face = faceOfTheDocument();
        face(face);
        constants(face);
        classesInside(face);
        words(code.replaceAll("\"[^\"\n]*\"", "\"\""));
        methodLengths(code);
        due.is("signs beyond 127", source.chars().filter(c -> c > 127).count(), 0);
        due.end();
    }

    /** The class as the document writes it, without bodies. */
    private static String faceOfTheDocument() throws Exception {
        String document = Files.readString(Path.of("../shared/DOC.md"));
        int start = document.indexOf("public final class BorrowedWords {");
        int end = document.indexOf("```", start);
        due.is("the document has a face", start >= 0 && end > start ? 1 : 0, 1);
        return start >= 0 && end > start ? document.substring(start, end) : "";
    }

    /** What a method of the document takes, by types alone. */
    private static String types(String parameters) {
        return parameters.replaceAll("(\\w+) \\w+", "$1");
    }

    private static Set<String> methodsOf(String face) {
        Set<String> methods = new TreeSet<>();
        Matcher found = METHOD.matcher(face);
        while (found.find()) methods.add("public int " + found.group(1) + "(" + types(found.group(2)) + ")");
        return methods;
    }

    private static String written(Method m) {
        List<String> types = new ArrayList<>();
        for (Class<?> type : m.getParameterTypes()) types.add(type.getSimpleName());
        return Modifier.toString(m.getModifiers()) + " " + m.getReturnType().getSimpleName() + " " + m.getName() + "(" + String.join(", ", types) + ")";
    }

    private static void face(String face) {
        Class<?> c = BorrowedWords.class;
        due.is("public and final", c.getModifiers() & (Modifier.PUBLIC | Modifier.FINAL), Modifier.PUBLIC | Modifier.FINAL);
        Set<String> open = new TreeSet<>();
        for (Method m : c.getDeclaredMethods()) {
            if (Modifier.isPublic(m.getModifiers())) open.add(written(m));
            else due.is(m + " is private", m.getModifiers() & Modifier.PRIVATE, Modifier.PRIVATE);
        }
        due.is("methods of the document", methodsOf(face).size(), 29);
        due.is("methods of the face: " + open, open.equals(methodsOf(face)) ? 1 : 0, 1);
        due.is("constructors", c.getDeclaredConstructors().length, 1);
        for (Constructor<?> k : c.getDeclaredConstructors()) {
            due.is("" + k, k.getParameterCount(), 0);
            due.is(k + " is public", k.getModifiers(), Modifier.PUBLIC);
        }
    }

    private static void constants(String face) throws Exception {
        Set<String> names = new TreeSet<>();
        int must = Modifier.PUBLIC | Modifier.STATIC | Modifier.FINAL;
        Matcher found = CONSTANT.matcher(face);
        while (found.find()) {
            names.add(found.group(1));
            Field f = BorrowedWords.class.getDeclaredField(found.group(1));
            due.is("" + f, f.getModifiers(), must);
            due.is(f + " is an int", f.getType() == int.class ? 1 : 0, 1);
            due.is("value of " + f, f.getInt(null), Integer.parseInt(found.group(2)));
        }
        due.is("constants of the document", names.size(), 5);
        for (Field f : BorrowedWords.class.getDeclaredFields()) {
            if (!names.contains(f.getName())) due.is(f + " is private", f.getModifiers() & Modifier.PRIVATE, Modifier.PRIVATE);
        }
    }

    private static void classesInside(String face) {
        Set<String> faceNames = new HashSet<>();
        Matcher found = METHOD.matcher(face);
        while (found.find()) faceNames.add(found.group(1));
        due.is("classes", BorrowedWords.class.getDeclaredClasses().length + 1 <= MOST_CLASSES ? 1 : 0, 1);
        limits(BorrowedWords.class);
        for (Class<?> c : BorrowedWords.class.getDeclaredClasses()) {
            due.is(c + " is static", c.getModifiers() & Modifier.STATIC, Modifier.STATIC);
            due.is(c + " is not public", c.getModifiers() & (Modifier.PUBLIC | Modifier.PROTECTED), 0);
            for (Method m : c.getDeclaredMethods()) due.is(m + " bears no name of the face", faceNames.contains(m.getName()) ? 1 : 0, 0);
            limits(c);
        }
    }

    private static void limits(Class<?> c) {
        int fields = 0;
        for (Field f : c.getDeclaredFields()) {
            if (!Modifier.isStatic(f.getModifiers())) fields++;
            else due.is(f + " is final", f.getModifiers() & Modifier.FINAL, Modifier.FINAL);
        }
        due.is("fields of " + c + ": " + fields, fields <= MOST_FIELDS ? 1 : 0, 1);
        for (Method m : c.getDeclaredMethods()) due.is("parameters of " + m, m.getParameterCount() <= MOST_PARAMETERS ? 1 : 0, 1);
    }

    private static void words(String code) {
        String[] ruledOut = {"throw", "throws", "try", "catch", "synchronized", "assert", "package", "import", "equals", "hashCode", "toString", "System",
            "Random", "Thread", "HashMap", "->", "::", "protected", "volatile", "native", "double", "float"};
        for (String word : ruledOut) {
            String pattern = Character.isLetter(word.charAt(0)) ? "\\b" + word + "\\b" : Pattern.quote(word);
            due.is("'" + word + "' in the source", Pattern.compile(pattern).matcher(code).find() ? 1 : 0, 0);
        }
        Matcher library = Pattern.compile("\\b(Math|Integer|Long)\\.(\\w+)").matcher(code);
        Set<String> used = new TreeSet<>();
        while (library.find()) used.add(library.group());
        used.removeAll(Set.of("Math.min", "Math.max", "Integer.bitCount", "Long.bitCount"));
        due.is("of the library: " + used, used.size(), 0);
    }

    /** A method begins with a line that ends in '{' four or eight blanks in, and ends with a lone '}' as far in. */
    private static void methodLengths(String code) {
        String[] lines = code.split("\n");
        for (int i = 0; i < lines.length; i++) {
            Matcher head = Pattern.compile("^( {4}| {8})\\w[^;=]*\\) \\{$").matcher(lines[i]);
            if (!head.matches()) continue;
            int end = i;
            while (end < lines.length && !lines[end].equals(head.group(1) + "}")) end++;
            due.is("lines of " + lines[i].trim() + " " + (end - i + 1), end - i + 1 <= MOST_LINES ? 1 : 0, 1);
        }
    }
}
