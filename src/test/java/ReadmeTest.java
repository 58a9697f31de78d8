import java.io.IOException;
import java.lang.reflect.Method;
import java.lang.reflect.Modifier;
import java.nio.file.Files;
import java.nio.file.Path;
import java.util.List;
import java.util.regex.Matcher;
import java.util.regex.Pattern;
import java.util.stream.Stream;

/** README.md: its calls answer what it says, and it names every call, every finding and every test. */
public final class ReadmeTest {
    private static final Pattern CALL = Pattern.compile("x\\.(\\w+)\\(([^()]*)\\);\\s+// (-?\\d+)(?::.*)?");
    private static final String[] FINDINGS = {"BEYOND", "FULL", "KIND", "NONE", "STATE", "MISSING", "SIZE"};

    private static WarmGlass x = null;
    private static int calls = 0;

    public static void main(String[] args) throws Exception {
        String page = Files.readString(Path.of("README.md"));
        boolean isJava = false;
        for (String line : page.split("\n")) {
            if (line.startsWith("```")) {
                isJava = line.equals("```java");
            } else if (isJava) {
                example(line);
            }
        }
        Check.due("calls on the page", calls > 0 ? 1 : 0, 1);
        namesCalls(page);
        namesFindings(page);
        namesTests(page);
        Check.end();
    }

    private static void example(String line) throws ReflectiveOperationException {
        if (line.equals("WarmGlass x = new WarmGlass();")) {
            x = new WarmGlass();
            return;
        }
        Matcher m = CALL.matcher(line);
        if (x == null || !m.matches()) {
            Check.wrong("not a call with its answer: " + line);
            return;
        }
        calls++;
        Check.due(line, answer(m.group(1), m.group(2)), Long.parseLong(m.group(3)));
    }

    private static long answer(String name, String given) throws ReflectiveOperationException {
        String[] numbers = given.isEmpty() ? new String[0] : given.split(", ");
        for (Method one : WarmGlass.class.getDeclaredMethods()) {
            Class<?>[] types = one.getParameterTypes();
            if (Modifier.isPublic(one.getModifiers()) && one.getName().equals(name) && types.length == numbers.length) {
                Object[] values = new Object[numbers.length];
                for (int i = 0; i < values.length; i++) {
                    values[i] = types[i] == long.class ? (Object) Long.decode(numbers[i]) : Integer.decode(numbers[i]);
                }
                return ((Number) one.invoke(x, values)).longValue();
            }
        }
        throw new NoSuchMethodException(name + " with " + numbers.length);
    }

    private static void namesCalls(String page) {
        for (Method one : WarmGlass.class.getDeclaredMethods()) {
            if (Modifier.isPublic(one.getModifiers())) {
                Check.due("names " + one.getName(), page.contains("`" + one.getName() + "`") ? 1 : 0, 1);
            }
        }
    }

    private static void namesFindings(String page) {
        for (int i = 0; i < FINDINGS.length; i++) {
            String row = "| " + (Check.BEYOND - i) + " | " + FINDINGS[i] + " | " + i + " |";
            Check.due("tells " + row, page.contains(row) ? 1 : 0, 1);
        }
    }

    private static void namesTests(String page) throws IOException {
        Check.due("names .ci/run", page.contains("\n    .ci/run\n") ? 1 : 0, 1);
        try (Stream<Path> files = Files.list(Path.of("src/test/java"))) {
            List<String> names = files.map(f -> f.getFileName().toString()).filter(f -> f.endsWith("Test.java")).toList();
            for (String name : names) {
                String test = name.replace(".java", "");
                Check.due("names " + test, page.contains("`" + test + "`") ? 1 : 0, 1);
            }
        }
    }
}
