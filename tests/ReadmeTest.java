import java.io.IOException;
import java.io.StringWriter;
import java.lang.reflect.InvocationTargetException;
import java.net.URL;
import java.net.URLClassLoader;
import java.nio.file.Files;
import java.nio.file.Path;
import java.util.regex.Matcher;
import java.util.regex.Pattern;
import javax.tools.JavaCompiler;
import javax.tools.ToolProvider;

/** Compiles the examples of README.md and runs them: each answers what stands behind it as a comment. */
public final class ReadmeTest {
    private static final Pattern EXAMPLE = Pattern.compile("(?s)```java\n(.*?)```");
    private static final Pattern ROW = Pattern.compile("(int (\\w+) = )?(x\\.\\w+\\(.*\\));\\s+// (-?\\d+)(:.*)?");
    private static int passed = 0;
    private static int failed = 0;

    /** Called by the examples. */
    public static void due(String call, long got, long want) {
        if (got == want) {
            passed++;
        } else {
            failed++;
            System.out.println("README.md: " + call + " answered " + got + ", it says " + want);
        }
    }

    public static void main(String[] args) throws Exception {
        String readme = Files.readString(Path.of("README.md"));
        Path out = Files.createTempDirectory("readme");
        try {
            compile(out, classOf(readme));
            run(out);
        } finally {
            for (String name : new String[] {"Examples.java", "Examples.class"}) {
                Files.deleteIfExists(out.resolve(name));
            }
            Files.deleteIfExists(out);
        }
        System.out.println(passed + " passed, " + failed + " failed");
        if (failed > 0 || passed == 0) {
            System.exit(1);
        }
    }

    private static String classOf(String readme) {
        StringBuilder text = new StringBuilder("public final class Examples {\npublic static void run() {\n");
        Matcher example = EXAMPLE.matcher(readme);
        while (example.find()) {
            text.append("{\n");
            for (String line : example.group(1).split("\n")) {
                text.append(asked(line)).append('\n');
            }
            text.append("}\n");
        }
        return text.append("}\n}\n").toString();
    }

    private static String asked(String line) {
        Matcher row = ROW.matcher(line);
        if (!row.matches()) {
            // a row whose answer could not be read would go untested
            due("'" + line + "' is read", line.contains("//") ? 0 : 1, 1);
            return line;
        }
        String call = row.group(3).replace("\"", "\\\"");
        String named = row.group(1) == null ? "" : row.group(1) + row.group(3) + ";\n";
        String value = row.group(1) == null ? row.group(3) : row.group(2);
        return named + "ReadmeTest.due(\"" + call + "\", " + value + ", " + row.group(4) + "L);";
    }

    private static void compile(Path out, String text) throws IOException {
        Path source = out.resolve("Examples.java");
        Files.writeString(source, text);
        JavaCompiler compiler = ToolProvider.getSystemJavaCompiler();
        StringWriter said = new StringWriter();
        boolean done = compiler.getTask(said, null, null,
                java.util.List.of("-cp", System.getProperty("java.class.path"), "-d", out.toString()), null,
                compiler.getStandardFileManager(null, null, null).getJavaFileObjects(source)).call();
        due("compiles: " + said, done ? 1 : 0, 1);
    }

    private static void run(Path out) throws Exception {
        try (URLClassLoader loader = new URLClassLoader(new URL[] {out.toUri().toURL()}, ReadmeTest.class.getClassLoader())) {
            loader.loadClass("Examples").getMethod("run").invoke(null);
        } catch (InvocationTargetException e) {
            due("no example throws: " + e.getCause(), 0, 1);
        }
    }
}
