import java.io.IOException;
import java.lang.reflect.Constructor;
import java.lang.reflect.Field;
import java.lang.reflect.Method;
import java.lang.reflect.Modifier;
import java.nio.file.Files;
import java.nio.file.Path;
import java.util.Set;
import java.util.TreeSet;
import java.util.regex.Matcher;
import java.util.regex.Pattern;

/** The public face is just the one that the document writes out, and the calls stand under the document's headings. */
public final class FaceTest extends Checks {
    private static final Path DOCUMENT = Path.of("../shared/DOC.md");
    private static final Path SOURCE = Path.of("src/main/java/MonoidRules.java");
    private static final Class<?> FACE = MonoidRules.class;

    public static void main(String[] args) throws IOException, IllegalAccessException {
        String document = Files.readString(DOCUMENT);
        String told = between(document, "```java", "```");
        promise("the class");
        dueText("it", Modifier.toString(FACE.getModifiers()) + " class " + FACE.getName(),
            found(told, "(public .*class \\w+) \\{").first());
        constructors(told);
        methods(told);
        constants(told);
        headings(document, Files.readString(SOURCE));
        nothingElseIsSeen();
        end();
    }

    private static String between(String text, String before, String behind) {
        int from = text.indexOf(before) + before.length();
        return text.substring(from, text.indexOf(behind, from));
    }

    /** The first groups of all that is found in a text. */
    private static TreeSet<String> found(String text, String pattern) {
        TreeSet<String> all = new TreeSet<>();
        Matcher m = Pattern.compile(pattern).matcher(text);
        while (m.find()) all.add(m.group(1));
        return all;
    }

    private static void constructors(String told) {
        promise("constructors");
        Set<String> there = new TreeSet<>();
        for (Constructor<?> k : FACE.getDeclaredConstructors()) there.add(k.toString());
        dueText("constructors", there.toString(), found(told, "(public MonoidRules\\(.*\\));").toString());
    }

    private static void methods(String told) {
        promise("methods");
        Set<String> there = new TreeSet<>();
        for (Method m : FACE.getDeclaredMethods()) {
            if (Modifier.isPublic(m.getModifiers())) there.add(spelt(m));
        }
        Set<String> due = new TreeSet<>();
        // Of the parameters the types alone, for their names are not kept.
        for (String method : found(told, "(public (?:int|long) \\w+\\(.*\\));")) due.add(method.replaceAll("(int|long) \\w+([,)])", "$1$2"));
        dueText("methods", there.toString(), due.toString());
        due("how many methods", there.size(), 26);
    }

    private static String spelt(Method m) {
        StringBuilder t = new StringBuilder(Modifier.toString(m.getModifiers()));
        t.append(' ').append(m.getReturnType()).append(' ').append(m.getName()).append('(');
        String comma = "";
        for (Class<?> parameter : m.getParameterTypes()) {
            t.append(comma).append(parameter);
            comma = ", ";
        }
        return t.append(')').toString();
    }

    private static void constants(String told) throws IllegalAccessException {
        promise("constants");
        Set<String> there = new TreeSet<>();
        for (Field f : FACE.getDeclaredFields()) {
            if (!Modifier.isPublic(f.getModifiers())) continue;
            dueText(f.getName(), Modifier.toString(f.getModifiers()) + " " + f.getType(), "public static final int");
            there.add(f.getName() + " = " + f.get(null));
        }
        dueText("constants", there.toString(), found(told, "([A-Z]+ = -?\\d+)").toString());
        due("how many constants", there.size(), 5);
    }

    /** Each public method stands behind the heading that the document names for it, and ahead of the next one. */
    private static void headings(String document, String source) {
        promise("headings");
        Matcher m = Pattern.compile("Ahead of the calls (.*) the interface says: ---- (\\w+)").matcher(document);
        int headings = 0;
        while (m.find()) {
            headings++;
            int from = source.indexOf("    // ---- " + m.group(2) + "\n");
            if (from < 0) {
                fail(m.group(2) + " is no heading");
                continue;
            }
            String part = source.substring(from);
            int next = part.indexOf("    // ---- ", 1);
            if (next >= 0) part = part.substring(0, next);
            Set<String> calls = found(part, "\n    public (?:int|long) (\\w+)\\(");
            dueText("calls under " + m.group(2), calls.toString(), found(m.group(1), "`(\\w+)`").toString());
        }
        due("how many headings", headings, 4);
    }

    private static void nothingElseIsSeen() {
        promise("members that are not public");
        for (Method m : FACE.getDeclaredMethods()) duePublicOrPrivate(m.toString(), m.getModifiers());
        for (Field f : FACE.getDeclaredFields()) duePublicOrPrivate(f.toString(), f.getModifiers());
    }

    private static void duePublicOrPrivate(String member, int modifiers) {
        if (!Modifier.isPublic(modifiers) && !Modifier.isPrivate(modifiers)) fail(member + " is seen from outside");
    }
}
