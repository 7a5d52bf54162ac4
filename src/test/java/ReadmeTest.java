import java.io.ByteArrayOutputStream;
import java.io.IOException;
import java.io.PrintStream;
import java.lang.reflect.Method;
import java.lang.reflect.Modifier;
import java.nio.charset.StandardCharsets;
import java.nio.file.Files;
import java.nio.file.Path;
import java.util.List;
import java.util.stream.Collectors;
import java.util.stream.Stream;

/** What README.md says can be followed: its program, what that prints, the paths, the calls, the tests. */
public final class ReadmeTest {
    private static final Path README = Path.of("README.md");
    private static final Path TESTS = Path.of("src/test/java");

    public static void main(String[] args) throws IOException {
        String readme = Files.readString(README);
        program(readme);
        paths(readme);
        calls(readme);
        tests(readme);
        Due.over();
    }

    private static void program(String readme) throws IOException {
        String example = Files.readString(TESTS.resolve("Example.java"));
        String shown = block(readme, "java");
        Due.is("the program that is shown", shown, example.substring(example.indexOf("public final class")));
        Due.is("what it prints", block(readme, "text"), printed());
    }

    private static String block(String readme, String kind) {
        String fence = "```" + kind + "\n";
        int start = readme.indexOf(fence);
        int end = start < 0 ? -1 : readme.indexOf("```", start + fence.length());
        return end < 0 ? "" : readme.substring(start + fence.length(), end);
    }

    private static String printed() {
        PrintStream before = System.out;
        ByteArrayOutputStream bytes = new ByteArrayOutputStream();
        System.setOut(new PrintStream(bytes, true, StandardCharsets.UTF_8));
        Example.main(new String[0]);
        System.setOut(before);
        return bytes.toString(StandardCharsets.UTF_8).replace(System.lineSeparator(), "\n");
    }

    /** Each path in the project that it tells is there; of a pattern its folder. */
    private static void paths(String readme) {
        int seen = 0;
        for (String word : readme.split("[\\s`(),;]+")) {
            if (word.startsWith("src/") || word.startsWith(".ci/")) {
                String path = word.contains("*") ? word.substring(0, word.lastIndexOf('/')) : word;
                Due.is("there is " + word, Files.exists(Path.of(path.replaceAll("[.:]$", ""))), true);
                seen++;
            }
        }
        Due.is("paths are told", seen > 5, true);
    }

    private static void calls(String readme) {
        String table = readme.substring(readme.indexOf("| call |"), readme.indexOf("## Tests"));
        for (Method call : FewProducts.class.getDeclaredMethods()) {
            if (Modifier.isPublic(call.getModifiers())) {
                Due.is("the table has " + call.getName(), hasCall(table, call.getName(), call.getParameterCount()), true);
            }
        }
    }

    /** Whether a call with so many arguments is told as `name(a, b)`. */
    private static boolean hasCall(String table, String name, int arguments) {
        int start = table.indexOf("`" + name + "(");
        int end = start < 0 ? -1 : table.indexOf(")`", start);
        if (end < 0) {
            return false;
        }
        String inside = table.substring(start + name.length() + 2, end);
        return (inside.isEmpty() ? 0 : inside.split(", ").length) == arguments;
    }

    private static void tests(String readme) throws IOException {
        try (Stream<Path> files = Files.list(TESTS)) {
            List<String> names = files.map(file -> file.getFileName().toString()).filter(name -> name.endsWith("Test.java"))
                .sorted().collect(Collectors.toList());
            for (String name : names) {
                String test = name.replace(".java", "");
                Due.is("the table has " + test, readme.contains("| `" + test + "` |"), true);
            }
            long told = readme.lines().filter(line -> line.matches("\\| `\\w+Test` \\|.*")).count();
            Due.is("tests that are told", told, names.size());
        }
    }

    private ReadmeTest() {
    }
}
