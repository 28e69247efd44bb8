import java.io.IOException;
import java.lang.reflect.Method;
import java.lang.reflect.Modifier;
import java.net.URL;
import java.net.URLClassLoader;
import java.nio.file.Files;
import java.nio.file.Path;
import java.util.List;
import java.util.regex.Matcher;
import java.util.regex.Pattern;
import java.util.stream.Stream;
import javax.tools.ToolProvider;

/** README.md tells the truth: its example is compiled and run, and it names every call and every test. */
public final class ReadmeTest {
    private static final Path README = Path.of("README.md");
    private static final Path TESTS = Path.of("src/test/java");
    private static final Pattern ANSWERED = Pattern.compile("(int \\w+ = )?(.+);\\s*// (-?\\d+)(:.*)?");

    /** The example is loaded apart from the tests, so that it hands its answers over. */
    private static final String HEAD = "public final class Example {\n"
            + "public static void show(ReadmeTest.Answers answers) {\n";

    public interface Answers {
        void accept(String call, long got, long due);
    }

    public static void main(String[] args) throws Exception {
        String page = Files.readString(README);
        example(Files.readAllLines(README));
        for (Method m : ProbeLocks.class.getDeclaredMethods()) {
            if (Modifier.isPublic(m.getModifiers())) {
                Check.due("README.md names " + m.getName(), page.contains("`" + m.getName() + "`"), true);
            }
        }
        try (Stream<Path> tests = Files.list(TESTS)) {
            for (Path test : tests.filter(t -> t.toString().endsWith("Test.java")).toList()) {
                String name = test.getFileName().toString().replace(".java", "");
                Check.due("README.md tells of " + name, page.contains("| `" + name + "` |"), true);
            }
        }
        Check.due("README.md says how the tests are run", page.contains("\n    .ci/run\n"), true);
        Check.done("ReadmeTest");
    }

    /** All java blocks together, in one method, with each answer that stands behind // compared. */
    private static void example(List<String> lines) throws Exception {
        StringBuilder source = new StringBuilder(HEAD);
        boolean inside = false;
        int answers = 0;
        for (String line : lines) {
            if (line.startsWith("```")) {
                inside = line.equals("```java");
            } else if (inside) {
                Matcher answered = ANSWERED.matcher(line);
                boolean hasAnswer = answered.matches();
                source.append(hasAnswer ? compared(answered) : line).append('\n');
                answers += hasAnswer ? 1 : 0;
            }
        }
        Check.due("the example has answers, not " + answers, answers > 20, true);
        run(source.append("}\n}\n").toString());
    }

    private static String compared(Matcher answered) {
        String declared = answered.group(1) == null ? "" : answered.group(1);
        String call = answered.group(2);
        String name = declared.isEmpty() ? "" : declared.split(" ")[1];
        String got = name.isEmpty() ? call : name;
        return (name.isEmpty() ? "" : declared + call + ";\n")
                + "answers.accept(\"" + call + "\", " + got + ", " + answered.group(3) + ");";
    }

    private static void run(String source) throws Exception {
        Path folder = Files.createTempDirectory("readme");
        Path file = Files.writeString(folder.resolve("Example.java"), source);
        String classes = System.getProperty("java.class.path");
        int failed = ToolProvider.getSystemJavaCompiler().run(null, null, null,
                "-cp", classes, "-d", folder.toString(), file.toString());
        Check.due("the example compiles", failed, 0);
        if (failed == 0) {
            Answers answers = (call, got, due) -> Check.due("README.md: " + call, got, due);
            try (URLClassLoader loader = new URLClassLoader(new URL[] {folder.toUri().toURL()})) {
                loader.loadClass("Example").getMethod("show", Answers.class).invoke(null, answers);
            }
        }
        remove(folder);
    }

    private static void remove(Path folder) throws IOException {
        try (Stream<Path> files = Files.list(folder)) {
            for (Path file : files.toList()) {
                Files.delete(file);
            }
        }
        Files.delete(folder);
    }
}
