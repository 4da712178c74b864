import java.io.IOException;
import java.lang.reflect.InvocationTargetException;
import java.net.URL;
import java.net.URLClassLoader;
import java.nio.file.Files;
import java.nio.file.Path;
import java.util.ArrayList;
import java.util.List;
import java.util.regex.Matcher;
import java.util.regex.Pattern;
import javax.tools.ToolProvider;

/** The example in README.md compiles, and its variables are what its comments say. */
public final class ReadmeTest {
    /** A line such as int number = guard.load(); // 1, the sequence number. */
    private static final Pattern TOLD = Pattern.compile("(?:int|boolean) (\\w+) = .*; *// (-?\\w+)[,:] .*");

    public static void main(String[] args) throws IOException, ReflectiveOperationException {
        Check check = new Check();
        String readme = Files.readString(Path.of("README.md"));
        String begin = "```java\n";
        int from = readme.indexOf(begin) + begin.length();
        String example = readme.substring(from, readme.indexOf("```", from));
        List<String> names = new ArrayList<>();
        List<String> due = new ArrayList<>();
        for (String line : example.split("\n")) {
            Matcher told = TOLD.matcher(line);
            if (told.matches()) {
                names.add(told.group(1));
                due.add(told.group(2));
            }
        }
        check.that("the example tells answers: " + names, names.size() >= 6);
        check.same("answers of the example " + names, due, answersOf(example, names));
        check.end();
    }

    private static List<?> answersOf(String example, List<String> names)
            throws IOException, ReflectiveOperationException {
        StringBuilder source = new StringBuilder("public class Example { public static java.util.List<String> answers() {\n");
        source.append(example).append("java.util.List<String> all = new java.util.ArrayList<>();\n");
        for (String name : names) {
            source.append("all.add(String.valueOf(").append(name).append("));\n");
        }
        source.append("return all; } }\n");
        Path folder = Files.createTempDirectory("readme");
        try {
            return compiledAnswers(folder, source.toString());
        } finally {
            Files.deleteIfExists(folder.resolve("Example.class"));
            Files.deleteIfExists(folder.resolve("Example.java"));
            Files.delete(folder);
        }
    }

    private static List<?> compiledAnswers(Path folder, String source) throws IOException, ReflectiveOperationException {
        Path file = Files.writeString(folder.resolve("Example.java"), source);
        int exit = ToolProvider.getSystemJavaCompiler().run(null, null, null, "-d", folder.toString(), "-cp",
                System.getProperty("java.class.path"), file.toString());
        if (exit != 0) {
            return List.of("it does not compile");
        }
        try (URLClassLoader loader = new URLClassLoader(new URL[] {folder.toUri().toURL()})) {
            return (List<?>) loader.loadClass("Example").getMethod("answers").invoke(null);
        } catch (InvocationTargetException thrown) {
            return List.of(String.valueOf(thrown.getCause()));
        }
    }
}
