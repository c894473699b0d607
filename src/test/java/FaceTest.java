import java.io.IOException;
import java.lang.reflect.Constructor;
import java.lang.reflect.Field;
import java.lang.reflect.Method;
import java.lang.reflect.Modifier;
import java.nio.file.Files;
import java.nio.file.Path;
import java.util.Set;
import java.util.TreeSet;
import java.util.regex.Matcher;
import java.util.regex.Pattern;

/** The public face is just the document's, and the source keeps to what LANGUAGE.md forbids by word. */
public final class FaceTest {
    private static final String[] FACE = {
        "int feed(long,int)", "int read()", "int word(int)", "int fault()", "int complete(int)", "int count(int)",
        "int rule(int,int)", "int ruleLetter(int,int,int)", "int waiting(int,int,int)", "int open()",
        "int overlap(int)", "int length(int)", "int letter(int,int)", "int join(int,int,int)", "int reduce(int)",
        "int step(int,int)", "int same(int,int)", "int compare(int,int)", "long many(int)", "long size()",
        "int element(int,int)", "int number(int)", "int product(int,int)", "int power(int,int)", "int inverse(int)",
        "int commutes()",
    };
    private static final String FORBIDDEN =
        "\\b(import|package|throw|throws|try|catch|finally|synchronized|assert|protected)\\b|->|::|@";
    private static int wrong = 0;

    private static void due(String what, Object got, Object want) {
        if (!got.equals(want)) {
            wrong++;
            System.out.println(what + ": is " + got + ", due is " + want);
        }
    }

    public static void main(String[] args) throws IOException {
        Class<?> c = MonoidRules.class;
        due("modifiers", Modifier.toString(c.getModifiers()), "public final");
        methods(c);
        fields(c);
        for (Constructor<?> k : c.getDeclaredConstructors()) {
            due("constructor", k.toString(), "public MonoidRules()");
        }
        source();
        System.out.println(wrong == 0 ? "the face is the document's" : wrong + " things are not as due");
        if (wrong != 0) System.exit(1);
    }

    private static void methods(Class<?> c) {
        Set<String> open = new TreeSet<>();
        Set<String> names = new TreeSet<>();
        for (Method m : c.getDeclaredMethods()) {
            if (Modifier.isPublic(m.getModifiers())) {
                StringBuilder t = new StringBuilder(m.getReturnType() + " " + m.getName() + "(");
                for (Class<?> p : m.getParameterTypes()) t.append(t.charAt(t.length() - 1) == '(' ? "" : ",").append(p);
                open.add(t.append(')').toString());
                names.add(m.getName());
                due("static " + m, Modifier.isStatic(m.getModifiers()), false);
            }
        }
        due("methods", open, new TreeSet<>(Set.of(FACE)));
        for (Method m : c.getDeclaredMethods()) {
            if (!Modifier.isPublic(m.getModifiers())) {
                due("private " + m, Modifier.isPrivate(m.getModifiers()), true);
                due("name of " + m, names.contains(m.getName()), false);
            }
        }
        for (Class<?> inside : c.getDeclaredClasses()) {
            due("static " + inside, Modifier.isStatic(inside.getModifiers()), true);
            for (Method m : inside.getDeclaredMethods()) due("name of " + m, names.contains(m.getName()), false);
        }
    }

    private static void fields(Class<?> c) {
        Set<String> open = new TreeSet<>();
        for (Field f : c.getDeclaredFields()) {
            if (Modifier.isPublic(f.getModifiers())) {
                due("type of " + f, f.getType(), int.class);
                due("static final " + f, Modifier.isStatic(f.getModifiers()) && Modifier.isFinal(f.getModifiers()), true);
                open.add(f.getName());
            } else {
                due("private " + f, Modifier.isPrivate(f.getModifiers()), true);
            }
        }
        due("constants", open, new TreeSet<>(Set.of("NONE", "BAD", "STATE", "FULL", "ENDLESS")));
        due("NONE", MonoidRules.NONE, -1);
        due("BAD", MonoidRules.BAD, -2);
        due("STATE", MonoidRules.STATE, -3);
        due("FULL", MonoidRules.FULL, -4);
        due("ENDLESS", MonoidRules.ENDLESS, -5);
    }

    private static void source() throws IOException {
        String text = Files.readString(Path.of("src/main/java/MonoidRules.java"));
        text = text.replaceAll("(?s)/\\*.*?\\*/", "").replaceAll("//[^\n]*", "");
        Matcher m = Pattern.compile(FORBIDDEN).matcher(text);
        while (m.find()) due("in the source", m.group(), "");
    }
}
