import java.io.IOException;
import java.lang.reflect.Field;
import java.lang.reflect.Method;
import java.lang.reflect.Modifier;
import java.nio.file.Files;
import java.nio.file.Path;
import java.util.ArrayList;
import java.util.List;
import java.util.Set;
import java.util.TreeSet;
import java.util.regex.Matcher;
import java.util.regex.Pattern;

/** Those rules of LANGUAGE.md that can be looked up or counted in the source and in the class. */
public final class LanguageTest extends Checks {
    private static final Path SOURCE = Path.of("src/main/java/MonoidRules.java");
    private static final String WORDS_THAT_MAY_NOT_STAND =
        "\\b(package|throw|throws|try|catch|finally|synchronized|assert|protected|\\w*Exact)\\b|->|::";
    // What the class uses of the library; rule 4 would allow more.
    private static final Set<String> LIBRARY = Set.of("System.arraycopy", "Math.max", "Math.min");
    private static final int MOST_LINES = 60, MOST_PARAMETERS = 7, MOST_CLASSES = 12, MOST_FIELDS = 20;

    public static void main(String[] args) throws IOException {
        String source = Files.readString(SOURCE);
        String code = source.replaceAll("(?s)/\\*.*?\\*/", "").replaceAll("//[^\n]*", "");
        words(code);
        library(code);
        methodsAreShort(code);
        due("how many classes", classes().size() <= MOST_CLASSES ? 1 : 0, 1);
        for (Class<?> c : classes()) {
            fields(c);
            methods(c);
        }
        end();
    }

    private static List<Class<?>> classes() {
        List<Class<?>> all = new ArrayList<>(List.of(MonoidRules.class));
        all.addAll(List.of(MonoidRules.class.getDeclaredClasses()));
        return all;
    }

    private static void words(String code) {
        promise("rules 1, 2, 4, 6");
        Matcher m = Pattern.compile(WORDS_THAT_MAY_NOT_STAND).matcher(code);
        while (m.find()) fail("\"" + m.group() + "\" stands in the source");
    }

    private static void library(String code) {
        promise("rule 4");
        Matcher m = Pattern.compile("\\b[A-Z][a-z]\\w*\\.\\w+").matcher(code);
        while (m.find()) {
            if (!LIBRARY.contains(m.group())) fail(m.group() + " is used");
        }
    }

    /** A method begins with a line that ends with ") {" and ends with the first "}" that stands as far to the left. */
    private static void methodsAreShort(String code) {
        promise("rule 11");
        String[] lines = code.split("\n");
        Pattern head = Pattern.compile("( {4}| {8})[A-Za-z][\\w\\[\\]<> ]*\\(.*\\) \\{");
        int methods = 0;
        for (int from = 0; from < lines.length; from++) {
            Matcher m = head.matcher(lines[from]);
            if (!m.matches() || lines[from].trim().matches("(if|for|while|switch|do)\\b.*")) continue;
            methods++;
            int to = from;
            while (!lines[to].equals(m.group(1) + "}")) to++;
            if (to - from + 1 > MOST_LINES) fail(lines[from].trim() + " has " + (to - from + 1) + " lines");
        }
        due("methods were found", methods > 80 ? 1 : 0, 1);
    }

    private static void fields(Class<?> c) {
        promise("rules 5, 11, " + c.getSimpleName());
        int own = 0;
        for (Field f : c.getDeclaredFields()) {
            if (!Modifier.isStatic(f.getModifiers())) {
                own++;
            } else if (!Modifier.isFinal(f.getModifiers()) || !f.getType().isPrimitive()) {
                fail(f + " is no constant");
            }
        }
        if (own > MOST_FIELDS) fail("has " + own + " fields");
    }

    private static void methods(Class<?> c) {
        promise("rules 1, 2, 6, 11, " + c.getSimpleName());
        if (c != MonoidRules.class && !Modifier.isStatic(c.getModifiers())) fail("is not static");
        Set<String> open = new TreeSet<>();
        for (Method m : MonoidRules.class.getDeclaredMethods()) {
            if (Modifier.isPublic(m.getModifiers())) open.add(m.getName());
        }
        for (Method m : c.getDeclaredMethods()) {
            if (m.getParameterCount() > MOST_PARAMETERS) fail(m + " has " + m.getParameterCount() + " parameters");
            if (!Modifier.isPublic(m.getModifiers()) && open.contains(m.getName())) fail(m + " bears the name of a public method");
            if (Set.of("equals", "hashCode", "toString").contains(m.getName())) fail(m + " is there");
        }
    }
}
