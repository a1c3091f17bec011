import java.io.ByteArrayOutputStream;
import java.io.IOException;
import java.io.PrintStream;
import java.lang.reflect.Method;
import java.lang.reflect.Modifier;
import java.net.URL;
import java.net.URLClassLoader;
import java.nio.charset.StandardCharsets;
import java.nio.file.DirectoryStream;
import java.nio.file.Files;
import java.nio.file.Path;
import java.util.ArrayList;
import java.util.List;
import java.util.Set;
import java.util.TreeSet;
import java.util.regex.Matcher;
import java.util.regex.Pattern;
import java.util.stream.Stream;
import javax.tools.ToolProvider;

/** README.md, from the project's directory: its example run as it stands there, and its table of tests. */
public final class ReadmeTest {
    private static final Path README = Path.of("README.md");
    private static final Path CLASS = Path.of("src/main/java/PatternMatcher.java");
    private static final Path TESTS = Path.of("src/test/java");
    private static final Pattern ANSWER = Pattern.compile(" *System\\.out\\.println\\(.*\\); +// (.*)");

    public static void main(String[] args) throws IOException, ReflectiveOperationException {
        List<String> lines = Files.readAllLines(README);
        example(block(lines));
        tests(String.join("\n", lines));
        Check.done();
    }

    /** The lines of the one block of Java that the file has. */
    private static List<String> block(List<String> lines) {
        int begin = lines.indexOf("```java");
        int end = begin + lines.subList(begin, lines.size()).indexOf("```");
        Check.due("README.md has one block of Java", lines.lastIndexOf("```java"), begin);
        return lines.subList(begin + 1, end);
    }

    private static void example(List<String> code) throws IOException, ReflectiveOperationException {
        List<String> want = new ArrayList<>();
        for (String line : code) {
            Matcher answer = ANSWER.matcher(line);
            if (answer.matches()) {
                want.add(answer.group(1));
            } else {
                Check.due("an answer stands beside " + line, line.contains("println"), false);
            }
        }
        Check.due("what the example prints", printed(code), want);
        for (Method method : PatternMatcher.class.getDeclaredMethods()) {
            if (Modifier.isPublic(method.getModifiers())) {
                String call = "x." + method.getName() + "(";
                Check.due("the example has " + call, String.join("\n", code).contains(call), true);
            }
        }
    }

    private static List<String> printed(List<String> code) throws IOException, ReflectiveOperationException {
        Path directory = Files.createTempDirectory("readme");
        try {
            Path file = Files.write(directory.resolve("Example.java"), code);
            int exit = ToolProvider.getSystemJavaCompiler().run(null, null, null, "-d", directory.toString(),
                CLASS.toString(), file.toString());
            Check.due("javac of the example", exit, 0);
            return exit == 0 ? run(directory) : List.of();
        } finally {
            delete(directory);
        }
    }

    private static List<String> run(Path directory) throws IOException, ReflectiveOperationException {
        PrintStream out = System.out;
        ByteArrayOutputStream bytes = new ByteArrayOutputStream();
        URL[] where = {directory.toUri().toURL()};
        try (URLClassLoader loader = new URLClassLoader(where, ClassLoader.getPlatformClassLoader())) {
            System.setOut(new PrintStream(bytes, true, StandardCharsets.US_ASCII));
            loader.loadClass("Example").getMethod("main", String[].class).invoke(null, (Object) new String[0]);
        } finally {
            System.setOut(out);
        }
        return bytes.toString(StandardCharsets.US_ASCII).lines().toList();
    }

    private static void delete(Path directory) throws IOException {
        try (DirectoryStream<Path> files = Files.newDirectoryStream(directory)) {
            for (Path file : files) {
                Files.delete(file);
            }
        }
        Files.delete(directory);
    }

    /** The tests that begin a line of the table are those that there are. */
    private static void tests(String readme) throws IOException {
        Set<String> told = new TreeSet<>();
        Matcher row = Pattern.compile("(?m)^\\| `(\\w+Test)` \\|").matcher(readme);
        while (row.find()) {
            told.add(row.group(1) + ".java");
        }
        Set<String> there = new TreeSet<>();
        try (Stream<Path> files = Files.list(TESTS)) {
            files.map(file -> file.getFileName().toString()).filter(name -> name.endsWith("Test.java"))
                .forEach(there::add);
        }
        Check.due("the tests that the table has", told, there);
    }
}
