import java.io.File;
import java.io.IOException;
import java.net.URL;
import java.net.URLClassLoader;
import java.nio.file.Files;
import java.nio.file.Path;
import java.util.ArrayList;
import java.util.List;
import java.util.regex.Matcher;
import java.util.regex.Pattern;
import javax.tools.ToolProvider;

/** Runs the Java examples of README.md, in their order, and compares each answer that is written behind a call. */
public final class ReadmeTest {
    private static final String FENCE = "```";
    private static final Pattern CALL = Pattern.compile("(planner\\.\\w+\\(.*\\)); +// (\\w+|-\\d+)");

    private final StringBuilder members = new StringBuilder();
    private final StringBuilder body = new StringBuilder();
    private int calls;

    public static void main(String[] args) throws Exception {
        ReadmeTest test = new ReadmeTest();
        test.read(Files.readAllLines(Path.of("README.md")));
        Path directory = Files.createTempDirectory("readme");
        int wrong;
        try {
            wrong = test.run(directory);
        } finally {
            for (File file : directory.toFile().listFiles()) {
                Files.delete(file.toPath());
            }
            Files.delete(directory);
        }
        Checks checks = new Checks("ReadmeTest");
        checks.due("examples with another answer than written", wrong, 0);
        checks.due("many calls are found in README.md", test.calls > 30 ? 1 : 0, 1);
        checks.end();
    }

    private void read(List<String> lines) {
        List<String> block = null;
        for (String line : lines) {
            if (line.equals(FENCE + "java")) {
                block = new ArrayList<>();
            } else if (line.equals(FENCE) && block != null) {
                take(block);
                block = null;
            } else if (block != null) {
                block.add(line);
            }
        }
    }

    /** A block of functions stands beside the others, which follow one another in one function. */
    private void take(List<String> block) {
        boolean functions = block.get(0).startsWith("static ");
        for (String line : block) {
            (functions ? members : body).append(functions ? line : checked(line)).append('\n');
        }
    }

    private String checked(String line) {
        Matcher call = CALL.matcher(line);
        if (!call.lookingAt()) {
            return line;
        }
        calls++;
        String told = "\"" + call.group(1) + "\"";
        if (call.group(2).endsWith("Exception")) {
            return "try { " + call.group(1) + "; CHECKS.due(" + told + ", 0, 1); } catch (java.util." + call.group(2) + " e) { }";
        }
        String due = call.group(2).startsWith("FAILED") ? "TrolleyPlanner." + call.group(2) : call.group(2);
        return "CHECKS.due(" + told + ", " + call.group(1) + ", " + due + ");";
    }

    /** Answers how many are wrong. The examples' class is loaded by a loader that has the tests too, so that it may use Checks. */
    private int run(Path directory) throws Exception {
        Path source = directory.resolve("Readme.java");
        Files.writeString(source, "public final class Readme {\n"
            + "private static final Checks CHECKS = new Checks(\"README.md\");\n"
            + "public static int wrong() {\n" + body + "return CHECKS.wrong();\n}\n" + members + "}\n");
        String classes = System.getProperty("java.class.path");
        int refused = ToolProvider.getSystemJavaCompiler().run(null, null, null, "-cp", classes, "-d", directory.toString(),
            source.toString());
        if (refused != 0) {
            throw new IOException("the examples of README.md do not compile");
        }
        URL[] places = {directory.toUri().toURL(), Path.of(classes).toUri().toURL()};
        try (URLClassLoader loader = new URLClassLoader(places, ClassLoader.getPlatformClassLoader())) {
            return (int) loader.loadClass("Readme").getMethod("wrong").invoke(null);
        }
    }

    private ReadmeTest() {
    }
}
