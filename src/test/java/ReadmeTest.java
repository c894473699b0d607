import java.io.IOException;
import java.lang.reflect.Field;
import java.lang.reflect.InvocationTargetException;
import java.lang.reflect.Method;
import java.lang.reflect.Modifier;
import java.nio.file.Files;
import java.nio.file.Path;
import java.util.Set;
import java.util.TreeSet;
import java.util.regex.Matcher;
import java.util.regex.Pattern;
import java.util.stream.Collectors;
import java.util.stream.Stream;

/** What README.md says is so: its example is run as it stands, and what it names is there. */
public final class ReadmeTest extends Checks {
    private static final Path README = Path.of("README.md");
    private static final Path TESTS = Path.of("src/test/java");
    private static final Path COMMAND = Path.of(".ci/run");
    private static final Pattern CALL = Pattern.compile("m\\.(\\w+)\\((.*)\\); *// (-?\\d+)\\b.*");

    public static void main(String[] args) throws IOException, ReflectiveOperationException {
        String readme = Files.readString(README);
        example(readme);
        calls(readme);
        constants(readme);
        tests(readme);
        command(readme);
        end();
    }

    private static Set<String> found(String text, String pattern) {
        Set<String> all = new TreeSet<>();
        Matcher m = Pattern.compile(pattern).matcher(text);
        while (m.find()) all.add(m.group(1));
        return all;
    }

    private static void example(String readme) throws ReflectiveOperationException {
        promise("the example");
        int from = readme.indexOf("```java\n") + 8;
        String[] lines = readme.substring(from, readme.indexOf("```", from)).split("\n");
        dueText("its first line", lines[0], "MonoidRules m = new MonoidRules();");
        MonoidRules m = new MonoidRules();
        for (int i = 1; i < lines.length; i++) {
            Matcher call = CALL.matcher(lines[i]);
            if (call.matches()) {
                due(lines[i], answer(m, call.group(1), call.group(2)), Long.parseLong(call.group(3)));
            } else {
                fail("no call with its answer: " + lines[i]);
            }
        }
        due("it has calls", lines.length > 10 ? 1 : 0, 1);
    }

    private static long answer(MonoidRules m, String name, String told) throws ReflectiveOperationException {
        String[] numbers = told.isEmpty() ? new String[0] : told.split(", ");
        for (Method method : MonoidRules.class.getMethods()) {
            if (method.getName().equals(name) && method.getParameterCount() == numbers.length) {
                Object[] values = new Object[numbers.length];
                for (int i = 0; i < numbers.length; i++) {
                    long value = Long.decode(numbers[i].replaceAll("[_L]", ""));
                    values[i] = method.getParameterTypes()[i] == long.class ? (Object) value : (Object) (int) value;
                }
                return ((Number) invoke(method, m, values)).longValue();
            }
        }
        throw new NoSuchMethodException(name);
    }

    private static Object invoke(Method method, MonoidRules m, Object[] values) throws ReflectiveOperationException {
        try {
            return method.invoke(m, values);
        } catch (InvocationTargetException e) {
            fail(method.getName() + " threw " + e.getCause());
            return Long.MIN_VALUE;
        }
    }

    /** The table has each public method with as many numbers as it takes. */
    private static void calls(String readme) {
        promise("the table of calls");
        Set<String> there = new TreeSet<>();
        for (Method method : MonoidRules.class.getDeclaredMethods()) {
            if (Modifier.isPublic(method.getModifiers())) there.add(method.getName() + " of " + method.getParameterCount());
        }
        Set<String> told = new TreeSet<>();
        for (String line : readme.split("\n")) {
            if (!line.startsWith("| `")) continue;
            for (String call : found(line, "`(\\w+\\([^)]*\\))`")) {
                String numbers = call.substring(call.indexOf('(') + 1, call.length() - 1);
                told.add(call.substring(0, call.indexOf('(')) + " of " + (numbers.isEmpty() ? 0 : numbers.split(", ").length));
            }
        }
        dueText("the calls", told.toString(), there.toString());
    }

    private static void constants(String readme) throws ReflectiveOperationException {
        promise("the constants");
        Set<String> there = new TreeSet<>();
        for (Field f : MonoidRules.class.getDeclaredFields()) {
            if (Modifier.isPublic(f.getModifiers())) there.add(f.getName() + "` " + f.get(null));
        }
        dueText("the constants", found(readme, "`([A-Z]+` -?\\d+)").toString(), there.toString());
    }

    private static void tests(String readme) throws IOException {
        promise("the tests");
        Set<String> there;
        try (Stream<Path> files = Files.list(TESTS)) {
            there = files.map(f -> f.getFileName().toString().replace(".java", "")).collect(Collectors.toCollection(TreeSet::new));
        }
        String told = readme.substring(readme.indexOf("## How to run the tests"));
        dueText("the classes of the tests", found(told, "`([A-Z][A-Za-z]+)`").toString(), there.toString());
    }

    private static void command(String readme) {
        promise("the command");
        if (!readme.contains("```sh\n" + COMMAND + "\n```")) fail(COMMAND + " is not named");
        if (!Files.isExecutable(COMMAND)) fail(COMMAND + " cannot be run");
    }
}
