import java.io.IOException;
import java.net.URL;
import java.net.URLClassLoader;
import java.nio.file.Files;
import java.nio.file.Path;
import java.util.ArrayList;
import java.util.List;
import java.util.regex.Matcher;
import java.util.regex.Pattern;
import javax.tools.JavaCompiler;
import javax.tools.ToolProvider;

/** The examples of README.md: they compile, and each call with a number behind it answers this number. */
public final class ReadmeTest {
    private static final Pattern ANSWERED = Pattern.compile("(\\w+\\.\\w+\\(.*\\)); +// (-?\\d+): .+");
    private static final int LEAST_ANSWERS = 30;

    private static int wrong = 0;

    public static void main(String[] args) throws IOException, ReflectiveOperationException {
        List<String> lines = examples(Files.readAllLines(Path.of("README.md")));
        int answers = 0;
        StringBuilder body = new StringBuilder();
        for (String line : lines) {
            Matcher answered = ANSWERED.matcher(line);
            if (answered.matches()) {
                answers++;
                String call = answered.group(1);
                body.append("ReadmeTest.due(\"").append(call.replace("\"", "\\\"")).append("\", ").append(call)
                        .append(", ").append(answered.group(2)).append("L);\n");
            } else {
                body.append(line).append('\n');
            }
        }
        if (answers < LEAST_ANSWERS) {
            fail("README.md shows only " + answers + " calls with their answers");
        }
        run("public final class Shown { public static void show() {\n" + body + "} }\n");
        if (wrong != 0) {
            System.exit(1);
        }
    }

    private static List<String> examples(List<String> page) {
        List<String> lines = new ArrayList<>();
        boolean inside = false;
        for (String line : page) {
            if (line.startsWith("```")) {
                inside = line.equals("```java");
            } else if (inside) {
                lines.add(line);
            }
        }
        return lines;
    }

    private static void run(String source) throws IOException, ReflectiveOperationException {
        Path directory = Files.createTempDirectory("readme");
        Path file = directory.resolve("Shown.java");
        Path compiled = directory.resolve("Shown.class");
        try {
            Files.writeString(file, source);
            JavaCompiler compiler = ToolProvider.getSystemJavaCompiler();
            String path = System.getProperty("java.class.path");
            int refused = compiler.run(null, null, null, "-cp", path, "-d", directory.toString(), file.toString());
            if (refused != 0) {
                fail("the examples of README.md do not compile");
                return;
            }
            try (URLClassLoader loader = new URLClassLoader(new URL[] {directory.toUri().toURL()})) {
                loader.loadClass("Shown").getMethod("show").invoke(null);
            }
        } finally {
            Files.deleteIfExists(file);
            Files.deleteIfExists(compiled);
            Files.deleteIfExists(directory);
        }
    }

    /** The examples call this one. */
    public static void due(String call, long got, long due) {
        if (got != due) {
            fail(call + " answered " + got + ", README.md says " + due);
        }
    }

    private static void fail(String what) {
        wrong++;
        System.out.println(what);
    }
}
