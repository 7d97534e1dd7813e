import java.io.IOException;
import java.lang.reflect.Field;
import java.lang.reflect.Method;
import java.lang.reflect.Modifier;
import java.nio.file.Files;
import java.nio.file.Path;
import java.util.List;
import java.util.Set;
import java.util.TreeSet;
import java.util.regex.Matcher;
import java.util.regex.Pattern;
import java.util.stream.Stream;

/** README.md: what it shows is what the class answers, and it names each call, each constant and each test. */
final class ReadmeTest {
    private static final Path PAGE = Path.of("README.md");
    private static final Path TESTS = Path.of("src", "test", "java");
    private static final Pattern NEW = Pattern.compile("(LiftExchange )?lift = new LiftExchange\\(\\);");
    private static final Pattern CALL = Pattern.compile("lift\\.(\\w+)\\((.*)\\);\\s+// (-?\\d+)\\b.*");

    private final Set<String> shown = new TreeSet<>();
    private LiftExchange lift;

    public static void main(String[] args) throws IOException, ReflectiveOperationException {
        List<String> page = Files.readAllLines(PAGE);
        ReadmeTest test = new ReadmeTest();
        test.calls(page);
        Check.same("calls that are shown", test.shown.toString(), face().toString());
        Check.same("calls that are explained", explained(page).toString(), face().toString());
        constants(page);
        Check.same("tests that are named", named(page).toString(), tests().toString());
        Check.end();
    }

    private void calls(List<String> page) throws ReflectiveOperationException {
        boolean java = false;
        for (String line : page) {
            if (line.startsWith("```")) {
                java = line.equals("```java");
            } else if (java && !line.isBlank()) {
                call(line);
            }
        }
    }

    private void call(String line) throws ReflectiveOperationException {
        Matcher call = CALL.matcher(line);
        if (NEW.matcher(line).matches()) {
            lift = new LiftExchange();
        } else if (call.matches()) {
            shown.add(call.group(1));
            Check.due(line, answer(call.group(1), call.group(2)), Long.parseLong(call.group(3)));
        } else {
            Check.same("a line that shows no answer", line, "");
        }
    }

    private long answer(String name, String told) throws ReflectiveOperationException {
        String[] texts = told.isEmpty() ? new String[0] : told.split(", ");
        for (Method method : LiftExchange.class.getDeclaredMethods()) {
            if (method.getName().equals(name) && method.getParameterCount() == texts.length) {
                Object[] arguments = new Object[texts.length];
                for (int i = 0; i < texts.length; i++) {
                    arguments[i] = argument(method.getParameterTypes()[i], texts[i]);
                }
                return ((Number) method.invoke(lift, arguments)).longValue();
            }
        }
        throw new IllegalArgumentException("there is no call " + name + "(" + told + ")");
    }

    private static Object argument(Class<?> type, String text) {
        if (type == boolean.class) {
            return Boolean.valueOf(text);
        }
        if (text.matches("'.'")) {
            return Long.valueOf(text.charAt(1));
        }
        long number = Long.decode(text.replace("L", ""));
        if (type == int.class) {
            return Math.toIntExact(number);
        }
        return number;
    }

    private static Set<String> face() {
        Set<String> names = new TreeSet<>();
        for (Method method : LiftExchange.class.getDeclaredMethods()) {
            if (Modifier.isPublic(method.getModifiers())) {
                names.add(method.getName());
            }
        }
        return names;
    }

    /** The calls of the table's rows, in which an answer stands. */
    private static Set<String> explained(List<String> page) {
        Set<String> names = new TreeSet<>();
        for (String line : page) {
            Matcher row = Pattern.compile("\\| `(\\w+)\\(.*\\)` \\| \\S.* \\|.*\\|").matcher(line);
            if (row.matches()) {
                names.add(row.group(1));
            }
        }
        return names;
    }

    private static void constants(List<String> page) throws IllegalAccessException {
        Set<String> rows = new TreeSet<>();
        for (String line : page) {
            Matcher row = Pattern.compile("\\| `([A-Z]+)` \\| (-?\\d+) \\|.*").matcher(line);
            if (row.matches()) {
                rows.add(row.group(1) + " " + row.group(2));
            }
        }
        Set<String> due = new TreeSet<>();
        for (Field field : LiftExchange.class.getFields()) {
            due.add(field.getName() + " " + field.getInt(null));
        }
        Check.same("constants", rows.toString(), due.toString());
    }

    private static Set<String> named(List<String> page) {
        Set<String> names = new TreeSet<>();
        for (String line : page) {
            Matcher row = Pattern.compile("\\| (\\w+Test) \\| \\S.*\\|").matcher(line);
            if (row.matches()) {
                names.add(row.group(1));
            }
        }
        return names;
    }

    private static Set<String> tests() throws IOException {
        Set<String> names = new TreeSet<>();
        try (Stream<Path> files = Files.list(TESTS)) {
            files.map(file -> file.getFileName().toString().replace(".java", "")).filter(name -> name.endsWith("Test"))
                .forEach(names::add);
        }
        return names;
    }
}
