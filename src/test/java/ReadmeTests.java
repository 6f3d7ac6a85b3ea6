import java.io.IOException;
import java.lang.reflect.Method;
import java.lang.reflect.Modifier;
import java.nio.file.Files;
import java.nio.file.Path;
import java.util.List;
import java.util.Set;
import java.util.TreeSet;
import java.util.regex.Matcher;
import java.util.regex.Pattern;

/** README.md tells the truth: its example answers as it says, and every call and test stands in it. */
public final class ReadmeTests {
    private static final Path README = Path.of("README.md");
    private static final Path TESTS = Path.of("src/test/java");
    private static final Pattern CALL = Pattern.compile("basins\\.(\\w+)\\(([-\\d, ]*)\\);\\s+// (-?\\d+|[A-Z]+)\\b.*");
    private static final Pattern TOLD = Pattern.compile("\\| `(\\w+)\\(([\\w, ]*)\\)` \\|.*");

    private static int wrong = 0;

    public static void main(String[] args) throws ReflectiveOperationException, IOException {
        List<String> lines = Files.readAllLines(README);
        checkExample(lines);
        checkTable(lines);
        checkTests(String.join("\n", lines));
        System.out.println(wrong == 0 ? "README.md tells the truth" : wrong + " lines of README.md do not hold");
        if (wrong != 0) {
            System.exit(1);
        }
    }

    private static void must(boolean holds, String what) {
        if (!holds) {
            wrong++;
            System.out.println("does not hold: " + what);
        }
    }

    private static void checkExample(List<String> lines) throws ReflectiveOperationException {
        FloodBasins basins = new FloodBasins();
        Set<String> used = new TreeSet<>();
        for (String line : lines) {
            if (!line.startsWith("basins.")) {
                continue;
            }
            Matcher call = CALL.matcher(line);
            if (!call.matches()) {
                must(false, "a call with its answer: " + line);
                continue;
            }
            used.add(call.group(1));
            int got = ask(basins, call.group(1), words(call.group(2)));
            must(got == number(call.group(3)), line + " (answered " + got + ")");
        }
        must(used.containsAll(Set.of("land", "put", "pits", "dot", "bound", "image", "restore")), "the example uses the class, not " + used);
    }

    private static void checkTable(List<String> lines) {
        Set<String> told = new TreeSet<>();
        for (String line : lines) {
            Matcher row = TOLD.matcher(line);
            if (row.matches()) {
                told.add(row.group(1) + " " + words(row.group(2)).length);
            }
        }
        Set<String> there = new TreeSet<>();
        for (Method method : FloodBasins.class.getDeclaredMethods()) {
            if (Modifier.isPublic(method.getModifiers())) {
                there.add(method.getName() + " " + method.getParameterCount());
            }
        }
        must(told.equals(there), "the calls " + there + " are told, not " + told);
    }

    private static void checkTests(String text) throws IOException {
        try (var files = Files.list(TESTS)) {
            for (Path file : files.sorted().toList()) {
                String name = file.getFileName().toString().replace(".java", "");
                must(text.contains("- `" + name + "`: "), "the test " + name + " is told");
            }
        }
        must(text.contains("    .ci/run\n"), "how to run the tests is told");
    }

    private static String[] words(String text) {
        return text.isBlank() ? new String[0] : text.split(", *");
    }

    private static int ask(FloodBasins basins, String name, String[] words) throws ReflectiveOperationException {
        Class<?>[] types = new Class<?>[words.length];
        Object[] numbers = new Object[words.length];
        for (int i = 0; i < words.length; i++) {
            types[i] = int.class;
            numbers[i] = Integer.valueOf(words[i]);
        }
        return (Integer) FloodBasins.class.getMethod(name, types).invoke(basins, numbers);
    }

    private static int number(String text) throws ReflectiveOperationException {
        return text.matches("[A-Z]+") ? FloodBasins.class.getField(text).getInt(null) : Integer.parseInt(text);
    }
}
