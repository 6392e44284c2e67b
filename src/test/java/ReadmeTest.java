import java.io.IOException;
import java.lang.reflect.Method;
import java.lang.reflect.Modifier;
import java.nio.file.DirectoryStream;
import java.nio.file.Files;
import java.nio.file.Path;
import java.util.HashMap;
import java.util.Map;
import java.util.Set;
import java.util.TreeSet;
import java.util.regex.Matcher;
import java.util.regex.Pattern;

/** README.md is so: its lines of Java answer what stands behind them, and it names the tests that there are. */
public final class ReadmeTest {
    private static final Path README = Path.of("README.md");
    private static final Path TESTS = Path.of("src/test/java");
    private static final String NEW_OBJECT = "RecordBridge x = new RecordBridge();";
    private static final Pattern BLOCK = Pattern.compile("(?s)```java\n(.*?)```");
    private static final Pattern LINE = Pattern.compile("(?:int (\\w+) = )?x\\.(\\w+)\\(([^()]*)\\); +// (-?\\w+): (.+)");

    private final Map<String, Long> names = new HashMap<>();
    private final Set<String> called = new TreeSet<>();
    private RecordBridge x;

    public static void main(String[] args) throws IOException, ReflectiveOperationException {
        String readme = Files.readString(README);
        ReadmeTest test = new ReadmeTest();
        Matcher block = BLOCK.matcher(readme);
        while (block.find()) {
            for (String line : block.group(1).split("\n")) {
                test.run(line);
            }
        }
        Check.isTrue("called are " + test.called, test.called.equals(face()));
        lookAtTests(readme);
        Check.end();
    }

    private void run(String line) throws ReflectiveOperationException {
        if (line.equals(NEW_OBJECT)) {
            x = new RecordBridge();
            names.clear();
            return;
        }
        Matcher m = LINE.matcher(line);
        Check.isTrue("README: a call, its answer and why: " + line, m.matches() && x != null);
        if (m.matches() && x != null) {
            long got = answer(m.group(2), m.group(3).isEmpty() ? new String[0] : m.group(3).split(", "));
            Check.due("README: " + line, got, number(m.group(4)));
            if (m.group(1) != null) {
                names.put(m.group(1), got);
            }
            if (m.group(2).equals("show")) {
                Check.isTrue("README: " + line + " shows " + shown(), shown().equals(m.group(5)));
            }
        }
    }

    private long answer(String name, String[] arguments) throws ReflectiveOperationException {
        called.add(name);
        for (Method m : RecordBridge.class.getMethods()) {
            if (m.getName().equals(name) && m.getParameterCount() == arguments.length) {
                Object[] values = new Object[arguments.length];
                for (int i = 0; i < values.length; i++) {
                    values[i] = argument(m.getParameterTypes()[i], arguments[i]);
                }
                return ((Number) m.invoke(x, values)).longValue();
            }
        }
        throw new NoSuchMethodException(name);
    }

    private Object argument(Class<?> type, String text) throws ReflectiveOperationException {
        if (type == boolean.class) {
            Check.isTrue("README: true or false, not " + text, text.equals("true") || text.equals("false"));
            return text.equals("true");
        }
        long v = number(text);
        return type == int.class ? (Object) (int) v : (Object) v;
    }

    /** A number, a name that a line above gave, or a constant of the class. */
    private long number(String text) throws ReflectiveOperationException {
        if (text.matches("-?\\d+")) {
            return Long.parseLong(text);
        }
        if (names.containsKey(text)) {
            return names.get(text);
        }
        return ((Number) RecordBridge.class.getField(text).get(null)).longValue();
    }

    private String shown() {
        StringBuilder text = new StringBuilder();
        for (int i = 0; x.byteAt(i) != RecordBridge.NONE; i++) {
            text.append((char) x.byteAt(i));
        }
        return text.toString();
    }

    private static Set<String> face() {
        Set<String> all = new TreeSet<>();
        for (Method m : RecordBridge.class.getDeclaredMethods()) {
            if (Modifier.isPublic(m.getModifiers())) {
                all.add(m.getName());
            }
        }
        return all;
    }

    private static void lookAtTests(String readme) throws IOException {
        Set<String> there = new TreeSet<>();
        try (DirectoryStream<Path> files = Files.newDirectoryStream(TESTS, "*Test.java")) {
            for (Path file : files) {
                there.add(file.getFileName().toString().replace(".java", ""));
            }
        }
        Set<String> named = new TreeSet<>();
        Matcher m = Pattern.compile("`(\\w+Test)`").matcher(readme);
        while (m.find()) {
            named.add(m.group(1));
        }
        Check.isTrue("README names " + named + ", there are " + there, named.equals(there));
    }
}
