import java.io.IOException;
import java.lang.reflect.Method;
import java.lang.reflect.Modifier;
import java.nio.file.Files;
import java.nio.file.Path;
import java.util.Arrays;
import java.util.Set;
import java.util.TreeSet;
import java.util.regex.Matcher;
import java.util.regex.Pattern;
import java.util.stream.Collectors;
import java.util.stream.Stream;

/** What README.md says is so: its example, its table of calls, its codes and its tables of tests. */
public final class ReadmeTest {
    private static final Pattern EXAMPLE = Pattern.compile("(?m)^broker\\.(\\w+)\\(([^)]*)\\); *// (true|false|-?\\d+)\\b");
    private static final Pattern CALL_ROW = Pattern.compile("(?m)^\\| `(\\w+)\\(([^)]*)\\)` \\|");
    private static final Pattern TEST_ROW = Pattern.compile("(?m)^\\| `(\\w+Test)` \\|");
    private static final Pattern CODE = Pattern.compile("`(BAD_ARG|FULL|NONE)` \\((-?\\d+)");

    public static void main(String[] args) throws IOException, ReflectiveOperationException {
        String readme = Files.readString(Path.of("README.md"));
        example(readme);
        calls(readme);
        codes(readme);
        tests(readme);
        Check.finish();
    }

    private static Method method(String name) {
        return Arrays.stream(TopicBroker.class.getMethods()).filter(each -> each.getName().equals(name)).findFirst().orElseThrow();
    }

    private static String names() {
        return Arrays.stream(TopicBroker.class.getDeclaredMethods())
            .filter(each -> Modifier.isPublic(each.getModifiers()))
            .map(Method::getName).sorted().collect(Collectors.joining(" "));
    }

    private static void example(String readme) throws ReflectiveOperationException {
        TopicBroker x = new TopicBroker();
        Set<String> used = new TreeSet<>();
        int rows = 0;
        for (Matcher row = EXAMPLE.matcher(readme); row.find(); rows++) {
            // decode reads a number that begins with 0 as octal, as Java does.
            Object[] given = Stream.of(row.group(2).split(", ")).map(Integer::decode).toArray();
            Check.same(row.group(), method(row.group(1)).invoke(x, given).toString(), row.group(3));
            used.add(row.group(1));
        }
        Check.due("every call of the example says its answer", readme.split("\nbroker\\.", -1).length - 1, rows);
        Check.same("methods in the example", String.join(" ", used), names());
    }

    private static void calls(String readme) {
        Set<String> named = new TreeSet<>();
        for (Matcher row = CALL_ROW.matcher(readme); row.find();) {
            Check.due("a row of its own for " + row.group(1), named.add(row.group(1)), true);
            Check.due("arguments of " + row.group(), row.group(2).split(", ").length, method(row.group(1)).getParameterCount());
        }
        Check.same("methods in the table", String.join(" ", named), names());
    }

    private static void codes(String readme) throws ReflectiveOperationException {
        int codes = 0;
        for (Matcher code = CODE.matcher(readme); code.find(); codes++) {
            Check.due(code.group(), Integer.parseInt(code.group(2)), TopicBroker.class.getField(code.group(1)).getInt(null));
        }
        Check.due("codes told", codes, 3);
    }

    private static void tests(String readme) throws IOException {
        Set<String> named = new TreeSet<>();
        for (Matcher row = TEST_ROW.matcher(readme); row.find();) {
            Check.due("a row of its own for " + row.group(1), named.add(row.group(1)), true);
        }
        try (Stream<Path> files = Files.list(Path.of("src/test/java"))) {
            Set<String> there = files.map(file -> file.getFileName().toString()).filter(name -> name.endsWith("Test.java"))
                .map(name -> name.replace(".java", "")).collect(Collectors.toCollection(TreeSet::new));
            Check.same("tests in the tables", named.toString(), there.toString());
        }
    }
}
