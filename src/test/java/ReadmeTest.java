import java.io.IOException;
import java.lang.reflect.Method;
import java.lang.reflect.Modifier;
import java.net.URL;
import java.net.URLClassLoader;
import java.nio.file.Files;
import java.nio.file.Path;
import java.util.ArrayList;
import java.util.List;
import java.util.regex.Matcher;
import java.util.regex.Pattern;
import javax.tools.ToolProvider;

/** The examples of README.md compile and answer what they say, and it names every method of the face. */
public final class ReadmeTest {
    private static final Pattern EXAMPLE = Pattern.compile("(?s)```java\n(.*?)```");
    private static final Pattern ANSWER = Pattern.compile("\\w+ (\\w+) = .*; +// is (\\S+)");
    private static final Pattern REFUSAL = Pattern.compile("(.*;) +// throws (\\w+)");
    private static final Check check = new Check();

    public static void main(String[] args) throws IOException, ReflectiveOperationException {
        String readme = Files.readString(Path.of("README.md"));
        for (Method method : SnowLedger.class.getDeclaredMethods()) {
            if (Modifier.isPublic(method.getModifiers())) {
                check.due("README.md names " + method.getName(), true,
                        () -> readme.contains("`" + method.getName() + "`"));
            }
        }
        List<String> examples = new ArrayList<>();
        Matcher matcher = EXAMPLE.matcher(readme);
        while (matcher.find()) {
            examples.add(matcher.group(1));
        }
        check.due("README.md has examples", true, () -> !examples.isEmpty());
        runAll(examples);
        check.end();
    }

    private static void runAll(List<String> examples) throws IOException, ReflectiveOperationException {
        StringBuilder source = new StringBuilder("public final class Examples {\n");
        for (int at = 0; at < examples.size(); at++) {
            source.append("public static void example").append(at).append("() {\n");
            examples.get(at).lines().forEach(line -> source.append(checking(line)).append('\n'));
            source.append("}\n");
        }
        Path folder = Files.createTempDirectory("readme");
        Path file = Files.writeString(folder.resolve("Examples.java"), source.append("}\n"));
        int failed = ToolProvider.getSystemJavaCompiler().run(null, null, null, "-d", folder.toString(),
                "-cp", System.getProperty("java.class.path"), file.toString());
        check.due("the examples of README.md compile", 0, () -> failed);
        if (failed == 0) {
            try (URLClassLoader loader = new URLClassLoader(new URL[] {folder.toUri().toURL()})) {
                for (int at = 0; at < examples.size(); at++) {
                    loader.loadClass("Examples").getMethod("example" + at).invoke(null);
                }
            }
        }
        for (String name : new String[] {"Examples.java", "Examples.class"}) {
            Files.deleteIfExists(folder.resolve(name));
        }
        Files.delete(folder);
    }

    /** The line as it stands, and a check of what its comment says. */
    private static String checking(String line) {
        String quoted = "\"" + line.strip().replace("\\", "\\\\").replace("\"", "\\\"") + "\"";
        Matcher answer = ANSWER.matcher(line);
        if (answer.matches()) {
            return line + "\nReadmeTest.answered(" + quoted + ", " + answer.group(2) + ", " + answer.group(1) + ");";
        }
        Matcher refusal = REFUSAL.matcher(line);
        if (refusal.matches()) {
            return "try { " + refusal.group(1) + " ReadmeTest.answered(" + quoted + ", \"an exception\", \"none\"); }\n"
                    + "catch (RuntimeException e) { ReadmeTest.answered(" + quoted + ", \"" + refusal.group(2)
                    + "\", e.getClass().getSimpleName()); }";
        }
        return line;
    }

    /** Called by the examples. */
    public static void answered(String line, Object due, Object got) {
        check.due("README.md: " + line, due, () -> got);
    }
}
