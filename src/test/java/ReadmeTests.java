import java.io.IOException;
import java.net.URL;
import java.net.URLClassLoader;
import java.nio.file.Files;
import java.nio.file.Path;
import java.util.ArrayList;
import java.util.List;
import java.util.regex.Matcher;
import java.util.regex.Pattern;
import javax.tools.ToolProvider;

/** README.md's example is run: each call behind which an answer is told answers so. */
public final class ReadmeTests {
    private static final Path README = Path.of("README.md");
    private static final Pattern EXAMPLE = Pattern.compile("(?s)```java\n(.*?)```");
    private static final Pattern TOLD = Pattern.compile("(.*\\));\\s+// (-?\\d+): .*");
    private static final int LEAST_TOLD = 10;

    private ReadmeTests() {
    }

    public static void main(String[] arguments) throws Exception {
        Matcher example = EXAMPLE.matcher(Files.readString(README));
        Check.holds("there is an example", example.find());
        List<String> calls = new ArrayList<>();
        List<Integer> due = new ArrayList<>();
        String code = codeOf(example.group(1), calls, due);
        Check.holds("answers are told: " + due.size(), due.size() >= LEAST_TOLD);
        int[] answers = run(code, due.size());
        for (int told = 0; told < due.size(); told++) {
            Check.same(calls.get(told), answers[told], due.get(told));
        }
        Check.finish("ReadmeTests");
    }

    private static String codeOf(String example, List<String> calls, List<Integer> due) {
        StringBuilder code = new StringBuilder("public final class Example {\n"
                + "    public static void run(int[] answers) {\n");
        for (String line : example.split("\n")) {
            Matcher told = TOLD.matcher(line);
            if (told.matches() && !line.contains(" = ")) {
                code.append("answers[").append(due.size()).append("] = ");
                calls.add(told.group(1).trim());
                due.add(Integer.parseInt(told.group(2)));
            }
            code.append(line).append('\n');
        }
        return code.append("    }\n}\n").toString();
    }

    private static int[] run(String code, int answers) throws IOException, ReflectiveOperationException {
        Path directory = Files.createTempDirectory("readme");
        Path file = directory.resolve("Example.java");
        Path compiled = directory.resolve("Example.class");
        int[] found = new int[answers];
        try {
            Files.writeString(file, code);
            int result = ToolProvider.getSystemJavaCompiler().run(null, null, null,
                    "-cp", System.getProperty("java.class.path"), "-d", directory.toString(), file.toString());
            Check.same("the example compiles", result, 0);
            try (URLClassLoader loader = new URLClassLoader(new URL[] {directory.toUri().toURL()})) {
                loader.loadClass("Example").getMethod("run", int[].class).invoke(null, found);
            }
        } finally {
            Files.deleteIfExists(compiled);
            Files.deleteIfExists(file);
            Files.deleteIfExists(directory);
        }
        return found;
    }
}
