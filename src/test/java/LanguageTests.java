import java.io.IOException;
import java.nio.file.Files;
import java.nio.file.Path;
import java.util.Arrays;
import java.util.List;
import java.util.Set;
import java.util.TreeSet;
import java.util.regex.Matcher;
import java.util.regex.Pattern;

/** Rules of LANGUAGE.md that can be seen in the text of the class; it is started at the project's root. */
public final class LanguageTests {
    private static final Path CLASS = Path.of("src/main/java/CallingLooms.java");
    private static final int LINES_MOST = 60, CLASSES_MOST = 12, FIELDS_MOST = 20, PARAMETERS_MOST = 7;
    private static final Pattern COMMENT = Pattern.compile("/\\*.*?\\*/|//[^\\n]*", Pattern.DOTALL);
    private static final Pattern SIGN = Pattern.compile("'(\\\\.|[^'\\\\])'");
    private static final Pattern NAME_OF_CLASS = Pattern.compile("\\b[A-Z]\\w*[a-z]\\w*");
    private static final Pattern OWN_CLASS = Pattern.compile("\\bclass (\\w+)");
    /** What the class uses today; whoever needs more of rule 4 or of the words below adds it here. */
    private static final List<String> LIBRARY = Arrays.asList("Math.min", "Math.max", "System.arraycopy");
    private static final String NOT_USED = "package|import|throws?|try|catch|finally|synchronized|assert|protected"
        + "|float|double|Object|String|volatile|native|transient|abstract|interface|record|enum|lambda|goto|var|yield";

    private LanguageTests() {
    }

    public static void main(String[] args) throws IOException {
        String code = SIGN.matcher(COMMENT.matcher(Files.readString(CLASS)).replaceAll("")).replaceAll("'_'");
        testWords(code);
        testLibrary(code);
        testSizes(code.split("\n"));
        testClasses();
        Checks.end("LanguageTests");
    }

    private static void dueNone(String rule, String code, String pattern) {
        Matcher found = Pattern.compile(pattern).matcher(code);
        while (found.find()) Checks.due("LANGUAGE.md, " + rule + ": " + found.group(), 1, 0);
    }

    private static void testWords(String code) {
        dueNone("words that the class does without", code, "\\b(" + NOT_USED + ")\\b");
        dueNone("rule 2, no lambda, no method reference", code, "->|::");
        dueNone("rule 4, no texts", code, "\"");
        dueNone("rule 5, no static initialiser block", code, "static\\s*\\{");
        dueNone("rule 5, static fields are final", code, "(?m)^\\s*(private |public )?static (?!final)[^(]*(=|;)");
        dueNone("rule 9, every loop has an end", code, "while\\s*\\(true\\)|for\\s*\\(;|for\\s*\\([^;)]*;\\s*;");
    }

    private static void testLibrary(String code) {
        Set<String> own = new TreeSet<>();
        Matcher classes = OWN_CLASS.matcher(code);
        while (classes.find()) own.add(classes.group(1));
        Matcher names = NAME_OF_CLASS.matcher(code);
        while (names.find()) {
            if (own.contains(names.group())) continue;
            boolean known = LIBRARY.stream().anyMatch(call -> code.startsWith(call + "(", names.start()));
            Checks.due("LANGUAGE.md, rule 4, " + names.group() + " may be used", known ? 1 : 0, 1);
        }
    }

    /** A method begins at a line that ends with ") {" and is no statement, and ends at the next "}" under its begin. */
    private static void testSizes(String[] lines) {
        for (int first = 0; first < lines.length; first++) {
            String line = lines[first];
            String indent = line.substring(0, line.length() - line.stripLeading().length());
            if (indent.length() > 8 || !line.matches(" *(\\w+(\\[\\])* )*\\w+\\(.*\\) \\{")) continue;
            if (line.matches(" *(if|for|while|switch) .*")) continue;
            int last = first;
            while (last < lines.length - 1 && !lines[last].equals(indent + "}")) last++;
            if (last - first > LINES_MOST) Checks.due("LANGUAGE.md, rule 11, lines of" + line, last - first, LINES_MOST);
        }
    }

    private static void testClasses() {
        Class<?>[] own = CallingLooms.class.getDeclaredClasses();
        Checks.due("LANGUAGE.md, rule 11, some twelve classes", Math.max(own.length + 1, CLASSES_MOST), CLASSES_MOST);
        for (Class<?> one : own) {
            long fields = Arrays.stream(one.getDeclaredFields())
                .filter(field -> !java.lang.reflect.Modifier.isStatic(field.getModifiers())).count();
            Checks.due("LANGUAGE.md, rule 11, fields of " + one, Math.max(fields, FIELDS_MOST), FIELDS_MOST);
            Arrays.stream(one.getDeclaredMethods()).forEach(method -> Checks.due("LANGUAGE.md, rule 11, parameters of "
                + method, Math.max(method.getParameterCount(), PARAMETERS_MOST), PARAMETERS_MOST));
        }
    }
}
