import java.io.IOException;
import java.net.URL;
import java.net.URLClassLoader;
import java.nio.file.Files;
import java.nio.file.Path;
import java.util.ArrayList;
import java.util.List;
import java.util.regex.Matcher;
import java.util.regex.Pattern;
import javax.tools.ToolProvider;

/** The example in README.md compiles, and every answer is the one that its comment begins with. */
public final class ReadmeTest {
    private static final Pattern MAKING = Pattern.compile("(ViewRewriter r = .*;) *// .*");
    private static final Pattern CALL = Pattern.compile("(r\\..*\\)); *// (YES|NO|BAD|FULL|-?\\d+)(: .*)?");
    private static final Due DUE = new Due();

    public static void main(String[] args) throws IOException, ReflectiveOperationException {
        List<String> calls = new ArrayList<>();
        List<String> lines = new ArrayList<>();
        for (String line : example()) {
            Matcher making = MAKING.matcher(line);
            Matcher call = CALL.matcher(line);
            if (making.matches()) {
                lines.add(making.group(1));
            } else if (call.matches()) {
                calls.add(call.group(1));
                String due = call.group(2).replaceFirst("(?=^[A-Z])", "ViewRewriter.");
                lines.add("answers.add(" + call.group(1) + "); answers.add(" + due + ");");
            } else {
                DUE.holds("a call with its answer: " + line, false);
            }
        }
        List<?> answers = run(lines);
        for (int i = 0; i < calls.size(); i++) {
            DUE.is(calls.get(i), (Integer) answers.get(2 * i), (Integer) answers.get(2 * i + 1));
        }
        DUE.finish();
    }

    private static List<String> example() throws IOException {
        List<String> readme = Files.readAllLines(Path.of("README.md"));
        List<String> after = readme.subList(readme.indexOf("```java") + 1, readme.size());
        return after.subList(0, after.indexOf("```"));
    }

    private static List<?> run(List<String> lines) throws IOException, ReflectiveOperationException {
        Path folder = Files.createTempDirectory("readme");
        Path source = folder.resolve("Example.java");
        Path compiled = folder.resolve("Example.class");
        Files.writeString(source, "public class Example {\n"
                + "public static java.util.List<Integer> run() {\n"
                + "java.util.List<Integer> answers = new java.util.ArrayList<>();\n"
                + String.join("\n", lines) + "\nreturn answers;\n}\n}\n");
        try (URLClassLoader loader = new URLClassLoader(new URL[] {folder.toUri().toURL()})) {
            int failed = ToolProvider.getSystemJavaCompiler().run(null, null, null, "-proc:none",
                    "-cp", System.getProperty("java.class.path"), "-d", folder.toString(), source.toString());
            DUE.is("exit code of javac for the example", failed, 0);
            return (List<?>) loader.loadClass("Example").getMethod("run").invoke(null);
        } finally {
            Files.deleteIfExists(compiled);
            Files.deleteIfExists(source);
            Files.deleteIfExists(folder);
        }
    }
}
