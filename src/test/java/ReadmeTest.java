import java.io.IOException;
import java.lang.reflect.Method;
import java.lang.reflect.Modifier;
import java.nio.file.Files;
import java.nio.file.Path;
import java.util.Set;
import java.util.TreeSet;
import java.util.regex.Matcher;
import java.util.regex.Pattern;
import java.util.stream.Stream;

/** What README.md says of the use of the class and of its tests holds. It runs in the project's directory. */
public final class ReadmeTest {
    private static final Pattern TEXT = Pattern.compile("String text = \"([^\"]*)\";");
    private static final Pattern CALL = Pattern.compile("(?m)^diagram\\.(\\w+)\\(([^)]*)\\); +// (-?\\d+)");
    private static final Pattern NUMBERS = Pattern.compile("(?m)^\\| `([A-Z_]+)` \\| (-\\d+) \\|");
    private static final Pattern NAME = Pattern.compile("`(\\w+)`");
    private static final Pattern COMMAND = Pattern.compile("(?m)^java -cp build/ci/own (\\w+)$");

    private ReadmeTest() {
    }

    public static void main(String[] args) throws IOException, ReflectiveOperationException {
        String page = Files.readString(Path.of("README.md"));
        String use = section(page, "## Use");
        String tests = section(page, "## Tests");
        example(between(use, "```java\n", "```"));
        methods(between(use, "| what | methods |\n", "\n\n"));
        numbers(use);
        testFiles(between(tests, "| test | what it looks at |\n", "\n\n"));
        commands(tests);
        Check.finish();
    }

    /** From the heading to the next one of its kind. */
    private static String section(String page, String heading) {
        return between(page + "\n## ", heading + "\n", "\n## ");
    }

    private static String between(String page, String before, String after) {
        int start = page.indexOf(before);
        Check.holds("README.md has no " + before, start >= 0);
        int end = page.indexOf(after, start + before.length());
        Check.holds("README.md has no end of " + before, end >= 0);
        return start >= 0 && end >= 0 ? page.substring(start + before.length(), end) : "";
    }

    private static void example(String lines) throws ReflectiveOperationException {
        Matcher text = TEXT.matcher(lines);
        Check.holds("the example has no text", text.find());
        KnotDiagram diagram = new KnotDiagram();
        Check.dueState("the example's new object", diagram, "1 circles");
        Check.append(diagram, text.group(1));
        Matcher call = CALL.matcher(lines);
        int calls = 0;
        while (call.find()) {
            int want = Integer.parseInt(call.group(3));
            Check.due("the example's " + call.group(1), answer(diagram, call.group(1), call.group(2)), want);
            calls++;
        }
        // Lines that begin otherwise are not looked at above.
        Check.due("calls in the example", calls, lines.split("\ndiagram\\.").length - 1);
        Check.holds("the example has no calls", calls > 0);
    }

    private static int answer(KnotDiagram diagram, String name, String arguments) throws ReflectiveOperationException {
        String[] words = arguments.isEmpty() ? new String[0] : arguments.split(", ");
        Class<?>[] types = new Class<?>[words.length];
        Object[] values = new Object[words.length];
        for (int i = 0; i < words.length; i++) {
            types[i] = int.class;
            values[i] = Integer.valueOf(words[i]);
        }
        return (int) KnotDiagram.class.getMethod(name, types).invoke(diagram, values);
    }

    private static void methods(String table) {
        Set<String> methods = new TreeSet<>();
        for (Method method : KnotDiagram.class.getDeclaredMethods()) {
            if (Modifier.isPublic(method.getModifiers())) {
                methods.add(method.getName());
            }
        }
        dueNames("methods", names(table), methods);
    }

    private static void numbers(String use) throws ReflectiveOperationException {
        Matcher row = NUMBERS.matcher(use);
        int rows = 0;
        while (row.find()) {
            int number = KnotDiagram.class.getField(row.group(1)).getInt(null);
            Check.due(row.group(1) + " in README.md", Integer.parseInt(row.group(2)), number);
            rows++;
        }
        Check.due("constants in README.md", rows, KnotDiagram.class.getFields().length);
    }

    private static void testFiles(String table) throws IOException {
        Set<String> tests = new TreeSet<>();
        try (Stream<Path> files = Files.list(Path.of("src/test/java"))) {
            files.map(file -> file.getFileName().toString()).filter(name -> name.endsWith("Test.java"))
                    .forEach(name -> tests.add(name.substring(0, name.length() - ".java".length())));
        }
        Set<String> named = names(table);
        named.removeIf(name -> !name.endsWith("Test"));
        dueNames("tests", named, tests);
    }

    private static Set<String> names(String table) {
        Set<String> names = new TreeSet<>();
        Matcher name = NAME.matcher(table);
        while (name.find()) {
            names.add(name.group(1));
        }
        return names;
    }

    private static void dueNames(String what, Set<String> got, Set<String> want) {
        Check.dueText("README.md's table of " + what, got.toString(), want.toString());
    }

    /** The commands that run one test look where .ci/run puts what it compiles. */
    private static void commands(String tests) throws IOException {
        Check.holds(".ci/run cannot be executed", Files.isExecutable(Path.of(".ci/run")));
        String script = Files.readString(Path.of(".ci/run"));
        Check.holds(".ci/run builds elsewhere", script.contains("\nout=build/ci\n")
                && script.contains("-d \"$out/own\"") && script.contains("-d \"$out/shared/$name\""));
        Matcher command = COMMAND.matcher(tests);
        int commands = 0;
        while (command.find()) {
            String name = command.group(1);
            Check.holds(name + " is no test", Files.exists(Path.of("src/test/java", name + ".java")));
            commands++;
        }
        Check.holds("no command that runs one test", commands > 0);
    }
}
