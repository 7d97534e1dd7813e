import java.io.IOException;
import java.lang.reflect.Field;
import java.lang.reflect.Method;
import java.lang.reflect.Modifier;
import java.nio.file.Files;
import java.nio.file.Path;
import java.util.Arrays;
import java.util.List;
import java.util.Set;
import java.util.TreeSet;
import java.util.regex.Matcher;
import java.util.regex.Pattern;

/** What of LANGUAGE.md a program can see of the file and the class: rules 1, 2, 4, 5, 6, 7, 9, 11. */
final class LanguageTest {
    private static final Path FILE = Path.of("src", "main", "java", "LiftExchange.java");
    private static final int MOST_LINES_OF_A_METHOD = 60;
    private static final int MOST_CLASSES = 12;
    private static final int MOST_FIELDS = 20;
    private static final int MOST_PARAMETERS = 7;

    private static final Set<String> FACE = Set.of("int write(int, long)", "int wipe()", "int fault()", "int house()",
        "int about(int)", "int where(int)", "int wants(int)", "int may(int, boolean)", "int choices(int)",
        "int halt(int, int, int)", "int back()", "int made(int, int)", "int reached()", "int fewest(int)",
        "int plan(int, int, int)", "int never()", "int hire()", "int walks()", "int call(int)", "int see(int, int)",
        "int unsee()", "long ways()", "long byThen(int)", "int likely(int, int)", "long even(int, boolean)",
        "int keep(int)", "int again(int)");
    private static final Set<String> CONSTANTS = Set.of("UNKNOWN", "BAD", "LATE", "FULL", "NONE");

    public static void main(String[] args) throws IOException {
        face();
        classesInside();
        for (Class<?> inside : LiftExchange.class.getDeclaredClasses()) {
            fields(inside);
            parameters(inside);
        }
        fields(LiftExchange.class);
        parameters(LiftExchange.class);
        String code = Files.readString(FILE).replaceAll("(?s)/\\*.*?\\*/", "").replaceAll("//.*", "");
        words(code);
        imports(code);
        indexes(code);
        divisors(code);
        loops(code);
        methodsAreShort(Files.readAllLines(FILE));
        Check.end();
    }

    private static void none(String what, Object found) {
        Check.same(what, found.toString(), "[]");
    }

    private static String told(Method method) {
        StringBuilder told = new StringBuilder(method.getReturnType() + " " + method.getName() + "(");
        for (Class<?> type : method.getParameterTypes()) {
            told.append(told.charAt(told.length() - 1) == '(' ? "" : ", ").append(type);
        }
        return told.append(')').toString();
    }

    private static void face() {
        Class<?> lift = LiftExchange.class;
        Set<String> methods = new TreeSet<>();
        Set<String> names = new TreeSet<>();
        Set<String> hidden = new TreeSet<>();
        for (Method method : lift.getDeclaredMethods()) {
            if (Modifier.isPrivate(method.getModifiers())) {
                hidden.add(method.getName());
            } else {
                methods.add(told(method));
                names.add(method.getName());
            }
        }
        Check.same("methods", methods.toString(), new TreeSet<>(FACE).toString());
        for (Class<?> inside : lift.getDeclaredClasses()) {
            for (Method method : inside.getDeclaredMethods()) {
                hidden.add(method.getName());
            }
        }
        hidden.retainAll(names);
        none("hidden methods with the name of a public one", hidden);
        Set<String> constants = new TreeSet<>();
        for (Field field : lift.getDeclaredFields()) {
            if (!Modifier.isPrivate(field.getModifiers())) {
                constants.add(field.getName());
            }
        }
        Check.same("constants", constants.toString(), new TreeSet<>(CONSTANTS).toString());
        Check.due("constructors", lift.getDeclaredConstructors().length, 1);
        Check.due("public and final", lift.getModifiers(), Modifier.PUBLIC | Modifier.FINAL);
    }

    private static void classesInside() {
        Class<?>[] inside = LiftExchange.class.getDeclaredClasses();
        Check.due("no more than so many classes", inside.length < MOST_CLASSES ? 1 : 0, 1);
        for (Class<?> one : inside) {
            int modifiers = one.getModifiers();
            boolean fits = Modifier.isStatic(modifiers) && !Modifier.isPublic(modifiers) && !Modifier.isProtected(modifiers);
            Check.due(one + " is static and hidden", fits ? 1 : 0, 1);
            Check.due(one + " has no classes inside", one.getDeclaredClasses().length, 0);
        }
    }

    private static void fields(Class<?> type) {
        int count = 0;
        for (Field field : type.getDeclaredFields()) {
            if (Modifier.isStatic(field.getModifiers())) {
                boolean constant = Modifier.isFinal(field.getModifiers()) && field.getType() == int.class;
                Check.due(field + " is a constant", constant ? 1 : 0, 1);
            } else {
                count++;
            }
        }
        Check.due("fields of " + type, count <= MOST_FIELDS ? 1 : 0, 1);
    }

    private static void parameters(Class<?> type) {
        for (Method method : type.getDeclaredMethods()) {
            Check.due("parameters of " + method, method.getParameterCount() <= MOST_PARAMETERS ? 1 : 0, 1);
        }
    }

    private static void words(String code) {
        List<String> words = List.of("throw", "throws", "try", "catch", "finally", "synchronized", "assert", "package",
            "float", "double", "System\\.(?!arraycopy)", "Object", "hashCode", "toString", "Exception", "Error", "Random",
            "Thread", "protected", "volatile", "transient", "native", "var", "static\\s*\\{", "Exact\\(");
        for (String word : words) {
            boolean stands = Pattern.compile("\\b" + word).matcher(code).find() && wholeWord(code, word);
            Check.due("the word " + word, stands ? 1 : 0, 0);
        }
        for (String sign : List.of("->", "::", "@", "\"", "...", "while (true)", "for (;;)")) {
            Check.due("the sign " + sign, code.contains(sign) ? 1 : 0, 0);
        }
    }

    private static boolean wholeWord(String code, String word) {
        boolean plain = word.chars().allMatch(Character::isLetter);
        return !plain || Pattern.compile("\\b" + word + "\\b").matcher(code).find();
    }

    private static void imports(String code) {
        Check.same("imports", Pattern.compile("import [^;]*;").matcher(code).results().map(m -> m.group()).toList().toString(),
            "[import java.util.Arrays;]");
        Set<String> library = new TreeSet<>();
        Pattern.compile("\\b(Arrays|Integer|Long|Math|System)\\.(\\w+)").matcher(code).results()
            .forEach(m -> library.add(m.group()));
        Check.same("the library", library.toString(),
            "[Arrays.fill, Integer.bitCount, Math.abs, Math.min, System.arraycopy]");
    }

    /** Rule 7: a place of a row is used where its own line, or one of the six before it, has looked at it. */
    private static void indexes(String code) {
        String[] lines = code.split("\n");
        Pattern use = Pattern.compile("(?<!new (?:int|long|Ride))\\b(\\w+)\\[(\\w[^\\]]*)\\]");
        for (int i = 0; i < lines.length; i++) {
            Matcher found = use.matcher(lines[i].replaceAll("new \\w+\\[[^\\]]*\\]", ""));
            while (found.find()) {
                String test = found.group(2) + " (<|>=) " + found.group(1) + "\\.length";
                String before = String.join(" ", Arrays.asList(lines).subList(Math.max(0, i - 6), i + 1));
                boolean tested = Pattern.compile(test).matcher(before).find();
                Check.due("a place that is looked at before" + lines[i], tested ? 1 : 0, 1);
            }
        }
    }

    /** Rule 7: what divides is a number, or was looked at just before. */
    private static void divisors(String code) {
        String[] lines = code.split("\n");
        Pattern use = Pattern.compile(" [/%]=? (\\w+)");
        for (int i = 0; i < lines.length; i++) {
            Matcher found = use.matcher(lines[i]);
            while (found.find()) {
                String before = String.join(" ", Arrays.asList(lines).subList(Math.max(0, i - 2), i));
                boolean tested = found.group(1).matches("[1-9]\\d*") || before.contains(found.group(1) + " != 0");
                Check.due("a divisor that is looked at before" + lines[i], tested ? 1 : 0, 1);
            }
        }
    }

    /** Rule 9: each loop has a counter against a bound in its own line. */
    private static void loops(String code) {
        for (String line : code.split("\n")) {
            if (line.matches("\\s*(for|while|do)\\b.*")) {
                Check.due("a loop with a bound:" + line, line.matches(".*\\w+ (<|<=|>|>=) [\\w.]+.*") ? 1 : 0, 1);
            }
        }
    }

    private static void methodsAreShort(List<String> lines) {
        int start = -1;
        for (int i = 0; i < lines.size(); i++) {
            String line = lines.get(i);
            if (line.matches(" {4,8}\\S.*\\) \\{") && !line.contains(" for (") && !line.contains(" class ")) {
                start = i;
            }
            if (line.matches(" {4,8}\\}") && start >= 0) {
                Check.due("lines of" + lines.get(start), i - start < MOST_LINES_OF_A_METHOD ? 1 : 0, 1);
                start = -1;
            }
            Check.due("a line's length: " + line, line.length() <= 120 ? 1 : 0, 1);
        }
    }
}
