import java.io.IOException;
import java.lang.reflect.Method;
import java.lang.reflect.Modifier;
import java.net.URL;
import java.net.URLClassLoader;
import java.nio.file.Files;
import java.nio.file.Path;
import java.util.regex.Matcher;
import java.util.regex.Pattern;
import java.util.stream.Stream;
import javax.tools.JavaCompiler;
import javax.tools.ToolProvider;

/** That README.md tells each call of the class, and that its examples answer what stands behind them. */
public final class ReadmeTest {
    private static final Pattern BLOCK = Pattern.compile("(?s)```java\n(.*?)```");
    private static final Pattern CALL = Pattern.compile("(?:(int|long) (\\w+) = )?(hay\\.\\w+\\(.*\\)); *// (-?\\d+).*");
    private static int wrong = 0;
    private static int answers = 0;

    /** Called by the examples. */
    public static void due(String call, long got, long want) {
        answers++;
        if (got != want) {
            fail(call + " answered " + got + ", README.md says " + want);
        }
    }

    private static void fail(String what) {
        wrong++;
        System.out.println(what);
    }

    public static void main(String[] args) throws Exception {
        String text = Files.readString(Path.of("README.md"));
        tellsEachCall(text);
        Path dir = Files.createTempDirectory("readme");
        try {
            examples(text, dir);
        } finally {
            empty(dir);
        }
        if (answers < 80) {
            fail("README.md has too few answers: " + answers);
        }
        System.out.println(wrong == 0 ? answers + " answers of README.md hold" : wrong + " faults");
        if (wrong != 0) {
            System.exit(1);
        }
    }

    private static void tellsEachCall(String text) {
        for (Method m : HayRemembers.class.getDeclaredMethods()) {
            if (!Modifier.isPublic(m.getModifiers())) {
                continue;
            }
            int n = m.getParameterCount();
            String given = n == 0 ? "" : "\\w+(, \\w+){" + (n - 1) + "}";
            if (!Pattern.compile("`" + m.getName() + "\\(" + given + "\\)`").matcher(text).find()) {
                fail("README.md does not tell " + m.getName() + "() with " + n + " numbers");
            }
        }
    }

    private static void examples(String text, Path dir) throws Exception {
        StringBuilder source = new StringBuilder("public final class Examples {\n");
        Matcher block = BLOCK.matcher(text);
        int n = 0;
        while (block.find()) {
            source.append("    public static void example").append(n).append("() {\n");
            for (String line : block.group(1).split("\n")) {
                source.append(looked(line)).append('\n');
            }
            source.append("    }\n");
            n++;
        }
        Path file = dir.resolve("Examples.java");
        Files.writeString(file, source.append("}\n"));
        JavaCompiler compiler = ToolProvider.getSystemJavaCompiler();
        String path = System.getProperty("java.class.path");
        if (compiler.run(null, null, null, "-classpath", path, "-d", dir.toString(), file.toString()) != 0) {
            fail("the examples of README.md do not compile");
            return;
        }
        try (URLClassLoader loader = new URLClassLoader(new URL[] {dir.toUri().toURL()})) {
            Class<?> made = loader.loadClass("Examples");
            for (int i = 0; i < n; i++) {
                made.getMethod("example" + i).invoke(null);
            }
        }
    }

    /** A line of an example, with a look at the answer that stands behind it. */
    private static String looked(String line) {
        Matcher m = CALL.matcher(line.trim());
        if (!m.matches()) {
            return line;
        }
        String call = m.group(3);
        String got = m.group(2) == null ? call : m.group(2);
        String kept = m.group(2) == null ? "" : m.group(1) + " " + got + " = " + call + "; ";
        return kept + "ReadmeTest.due(\"" + call + "\", " + got + ", " + m.group(4) + "L);";
    }

    private static void empty(Path dir) throws IOException {
        try (Stream<Path> files = Files.list(dir)) {
            for (Path file : (Iterable<Path>) files::iterator) {
                Files.delete(file);
            }
        }
        Files.delete(dir);
    }
}
