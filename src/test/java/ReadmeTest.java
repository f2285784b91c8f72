import java.io.IOException;
import java.lang.reflect.Method;
import java.lang.reflect.Modifier;
import java.net.URL;
import java.net.URLClassLoader;
import java.nio.file.Files;
import java.nio.file.Path;
import java.util.regex.Matcher;
import java.util.regex.Pattern;
import javax.tools.JavaCompiler;
import javax.tools.ToolProvider;

/** README.md holds: its example is compiled and run, its table has every call; run in the project's folder. */
public final class ReadmeTest {
    private static final Pattern EXAMPLE = Pattern.compile("(?s)```java\n(.*?)```");
    /** A line of the example: perhaps a new variable, a call, and the answer that is due. */
    private static final Pattern LINE = Pattern.compile(
            "(?:(?:int|long|double|float) (\\w+) = )?([^;]*);\\s*// = (-?\\d+(?:\\.\\d+)?).*");

    public static void main(String[] args) throws Exception {
        String readme = Files.readString(Path.of("README.md"));
        everyCallIsTold(readme);
        Matcher example = EXAMPLE.matcher(readme);
        Check.holds("that README.md has an example", example.find());
        runExample(example.group(1));
        Check.finish();
    }

    private static void everyCallIsTold(String readme) {
        for (Method method : BitTuner.class.getDeclaredMethods()) {
            if (Modifier.isPublic(method.getModifiers())) {
                String row = "(?m)^\\| .*`" + method.getName() + "\\([^`]*\\)`.* \\|$";
                Check.holds("a row for " + method.getName() + "()", Pattern.compile(row).matcher(readme).find());
            }
        }
    }

    /** Each answer is compared where it is due, as the example's own next line may change it. */
    private static String checked(String example) {
        StringBuilder code = new StringBuilder("public final class ReadmeExample {\n    public static void main() {\n");
        int due = 0;
        for (String line : example.split("\n")) {
            Matcher told = LINE.matcher(line);
            if (told.matches() && told.group(1) == null) {
                code.append(compared(told.group(2), told.group(2), told.group(3)));
                due++;
            } else if (told.matches()) {
                code.append(line).append('\n').append(compared(told.group(2), told.group(1), told.group(3)));
                due++;
            } else {
                code.append(line).append('\n');
            }
        }
        Check.holds("many answers due: " + due, due > 25);
        return code.append("    }\n}\n").toString();
    }

    private static String compared(String call, String got, String want) {
        return "ReadmeTest.due(\"README.md: " + call + "\", " + got + ", " + want + ");\n";
    }

    /** For the example alone: its loader is another one, which lets it see only what is public. */
    public static void due(String call, double got, double want) {
        Check.dueNumber(call, got, want);
    }

    private static void runExample(String example) throws Exception {
        Path folder = Files.createTempDirectory("readme");
        try {
            Path source = folder.resolve("ReadmeExample.java");
            Files.writeString(source, checked(example));
            JavaCompiler compiler = ToolProvider.getSystemJavaCompiler();
            String classes = System.getProperty("java.class.path");
            int failed = compiler.run(null, null, null, "-cp", classes, "-d", folder.toString(), source.toString());
            Check.due("compiling the example", failed, 0);
            if (failed == 0) {
                try (URLClassLoader loader = new URLClassLoader(new URL[] {folder.toUri().toURL()})) {
                    loader.loadClass("ReadmeExample").getMethod("main").invoke(null);
                }
            }
        } finally {
            removeAll(folder);
        }
    }

    private static void removeAll(Path folder) throws IOException {
        try (var files = Files.list(folder)) {
            for (Path file : files.toList()) {
                Files.delete(file);
            }
        }
        Files.delete(folder);
    }
}
