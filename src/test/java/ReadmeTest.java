import java.io.IOException;
import java.lang.reflect.Method;
import java.lang.reflect.Modifier;
import java.net.URL;
import java.net.URLClassLoader;
import java.nio.file.Files;
import java.nio.file.Path;
import java.util.regex.Matcher;
import java.util.regex.Pattern;
import javax.tools.ToolProvider;

/** README.md: its examples run as one program, each call answers what stands behind it. */
public final class ReadmeTest {
    private static final Path README = Path.of("README.md");
    private static final Pattern BLOCK = Pattern.compile("(?s)```java\n(.*?)```");
    private static final Pattern ANSWERED =
            Pattern.compile("^(int \\w+ = |)(town\\.\\w+\\(.*\\)); +// (-?\\d+)(?::.*)?$");
    private static final Due DUE = new Due();
    private static int examples;

    /** What the program made of the examples calls. */
    public static int answered(String call, int got, int want) {
        DUE.due(call, got, want);
        return got;
    }

    private static String line(String written) {
        Matcher m = ANSWERED.matcher(written);
        if (!m.matches()) {
            return written;
        }
        examples++;
        return m.group(1) + "ReadmeTest.answered(\"" + m.group(2) + "\", " + m.group(2) + ", " + m.group(3) + ");";
    }

    private static String program(String readme) {
        StringBuilder program = new StringBuilder("public final class Examples { public static void run() {\n");
        Matcher block = BLOCK.matcher(readme);
        while (block.find()) {
            for (String written : block.group(1).split("\n")) {
                program.append(line(written)).append('\n');
            }
        }
        return program.append("} }\n").toString();
    }

    private static void run(String program) throws IOException, ReflectiveOperationException {
        Path where = Files.createTempDirectory("readme");
        Path source = where.resolve("Examples.java");
        Path compiled = where.resolve("Examples.class");
        try {
            Files.writeString(source, program);
            int compiles = ToolProvider.getSystemJavaCompiler().run(null, null, null, "-d", where.toString(),
                    "-cp", System.getProperty("java.class.path"), source.toString());
            DUE.due("the examples compile", compiles, 0);
            if (compiles == 0) {
                try (URLClassLoader loader = new URLClassLoader(new URL[] {where.toUri().toURL()})) {
                    loader.loadClass("Examples").getMethod("run").invoke(null);
                }
            }
        } finally {
            Files.deleteIfExists(source);
            Files.deleteIfExists(compiled);
            Files.deleteIfExists(where);
        }
    }

    private static void namesEveryCall(String readme) {
        for (Method m : HeldTongues.class.getDeclaredMethods()) {
            if (Modifier.isPublic(m.getModifiers())) {
                Matcher named = Pattern.compile("`" + m.getName() + "\\(([^)]*)\\)`").matcher(readme);
                boolean found = false;
                while (named.find()) {
                    found |= howMany(named.group(1)) == m.getParameterCount();
                }
                DUE.holds("README.md names " + m.getName(), found);
            }
        }
    }

    private static int howMany(String parameters) {
        return parameters.isEmpty() ? 0 : parameters.split(",").length;
    }

    public static void main(String[] args) throws IOException, ReflectiveOperationException {
        String readme = Files.readString(README);
        run(program(readme));
        DUE.holds(examples + " examples", examples >= 10);
        namesEveryCall(readme);
        DUE.end();
    }
}
