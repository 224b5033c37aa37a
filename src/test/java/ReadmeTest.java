import java.io.File;
import java.io.IOException;
import java.net.URL;
import java.net.URLClassLoader;
import java.nio.file.Files;
import java.nio.file.Path;
import java.util.ArrayList;
import java.util.List;
import java.util.Map;
import java.util.regex.Matcher;
import java.util.regex.Pattern;
import javax.tools.ToolProvider;

/** README.md's example compiles and answers as it says there, and every test is named there. */
public final class ReadmeTest {
    private static final Path README = Path.of("README.md"), TESTS = Path.of("src/test/java");
    private static final Pattern EXAMPLE = Pattern.compile("```java\n(.*?)```", Pattern.DOTALL);
    /** A call with what it answers, such as "goose.stuck();   // 3: bits of 0 and 1". */
    private static final Pattern CALL = Pattern.compile("(goose\\..*);\\s+// (-?\\d+|[A-Z]+)(:.*)?");
    private static final Map<String, Long> NAMES = Map.of(
        "BAD", -1L, "FULL", -2L, "FINDING", -3L, "STATE", -4L, "SPENT", -6L, "NONE", -9L);

    private final List<String> calls = new ArrayList<>();
    private final List<Long> wants = new ArrayList<>();
    private final StringBuilder code = new StringBuilder();

    public static void main(String[] args) throws IOException, ReflectiveOperationException {
        String readme = Files.readString(README);
        Matcher example = EXAMPLE.matcher(readme);
        int examples = 0;
        while (example.find()) {
            examples++;
            new ReadmeTest().go(example.group(1));
        }
        Checks.due("an example", examples > 0 ? 1 : 0, 1);
        everyTestIsNamed(readme);
        Checks.end("ReadmeTest");
    }

    private static void everyTestIsNamed(String readme) throws IOException {
        for (Path test : Files.list(TESTS).toArray(Path[]::new)) {
            String name = test.getFileName().toString();
            Checks.due(name + " is named", !name.endsWith("Test.java") || readme.contains(name) ? 1 : 0, 1);
        }
    }

    private void go(String example) throws IOException, ReflectiveOperationException {
        for (String line : example.split("\n")) {
            take(line);
        }
        Checks.due("calls with an answer", calls.isEmpty() ? 0 : 1, 1);
        List<?> got = answers();
        Checks.due("answers", got.size(), wants.size());
        for (int i = 0; i < Math.min(got.size(), wants.size()); i++) {
            Checks.due("README.md: " + calls.get(i), (Long) got.get(i), wants.get(i));
        }
    }

    /** A call that tells no answer, within a loop, stays as it is; one that begins a line has to tell one. */
    private void take(String line) {
        Matcher call = CALL.matcher(line);
        if (!call.matches()) {
            Checks.due("an answer: " + line, line.startsWith("goose.") ? 0 : 1, 1);
            code.append(line).append('\n');
            return;
        }
        String want = call.group(2);
        calls.add(call.group(1));
        wants.add(NAMES.containsKey(want) ? NAMES.get(want) : Long.valueOf(want));
        code.append("answers.add((long) ").append(call.group(1)).append(");\n");
    }

    private List<?> answers() throws IOException, ReflectiveOperationException {
        Path place = Files.createTempDirectory("readme");
        Path source = place.resolve("ReadmeExample.java");
        Files.writeString(source, "public final class ReadmeExample {\n"
            + "public static java.util.List<Long> answers() {\n"
            + "java.util.List<Long> answers = new java.util.ArrayList<>();\n" + code + "return answers;\n}\n}\n");
        int failed = ToolProvider.getSystemJavaCompiler().run(null, null, null, "-d", place.toString(),
            "-cp", System.getProperty("java.class.path"), source.toString());
        Checks.due("README.md's example compiles", failed, 0);
        try (URLClassLoader loader = new URLClassLoader(new URL[] {place.toUri().toURL()})) {
            if (failed != 0) {
                return List.of();
            }
            return (List<?>) loader.loadClass("ReadmeExample").getMethod("answers").invoke(null);
        } finally {
            for (File file : place.toFile().listFiles()) {
                file.delete();
            }
            place.toFile().delete();
        }
    }
}
