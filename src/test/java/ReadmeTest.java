import java.io.IOException;
import java.net.URL;
import java.net.URLClassLoader;
import java.nio.file.Files;
import java.nio.file.Path;
import java.util.ArrayList;
import java.util.List;
import java.util.regex.Matcher;
import java.util.regex.Pattern;
import javax.tools.JavaCompiler;
import javax.tools.ToolProvider;

/** Compiles and runs the examples of README.md, one behind another, and looks at each answer that is shown there. */
public final class ReadmeTest {
    private static final Pattern BLOCK = Pattern.compile("(?s)```java\n(.*?)```");
    /** A call, and behind // the answer that is due, up to a colon. */
    private static final Pattern SHOWN = Pattern.compile("((?:x|new LampWall\\(\\))\\.(\\w+)\\(.*\\)); *// ([^:]+).*");

    private static int checks = 0;
    private static int wrong = 0;

    public static void main(String[] args) throws IOException, ReflectiveOperationException {
        List<String> names = new ArrayList<>(Calls.NAMES);
        String program = programOf(Files.readString(Path.of("README.md")), names);
        if (!names.isEmpty()) {
            report("no example shows an answer of " + names);
        }
        run(program);
        System.out.println(checks + " answers of the examples, " + wrong + " wrong");
        if (wrong != 0) {
            System.exit(1);
        }
    }

    /** The program that the examples make; takes the calls that they show out of the names. */
    private static String programOf(String readme, List<String> names) {
        StringBuilder program = new StringBuilder("public final class Examples { public static void run() {\n");
        Matcher block = BLOCK.matcher(readme);
        while (block.find()) {
            for (String line : block.group(1).split("\n")) {
                Matcher shown = SHOWN.matcher(line.trim());
                if (shown.matches()) {
                    names.remove(shown.group(2));
                    program.append(checkOf(shown)).append('\n');
                } else {
                    refuseUnchecked(line);
                    program.append(line).append('\n');
                }
            }
        }
        return program.append("} }\n").toString();
    }

    private static void refuseUnchecked(String line) {
        if (line.contains("//")) {
            report("not told so that it can be checked: " + line);
        }
    }

    private static String checkOf(Matcher shown) {
        String told = shown.group(1).replace("\\", "\\\\").replace("\"", "\\\"");
        return "ReadmeTest.due(\"" + told + "\", " + shown.group(1) + ", " + shown.group(3).trim() + ");";
    }

    public static void due(String call, long got, long want) {
        checks++;
        if (got != want) {
            report(call + " answered " + got + ", README.md shows " + want);
        }
    }

    private static void report(String what) {
        wrong++;
        System.out.println(what);
    }

    private static void run(String program) throws IOException, ReflectiveOperationException {
        Path folder = Files.createTempDirectory("examples");
        Path source = folder.resolve("Examples.java");
        Path compiled = folder.resolve("Examples.class");
        try {
            Files.writeString(source, program);
            JavaCompiler javac = ToolProvider.getSystemJavaCompiler();
            int failed = javac.run(null, null, null, "-cp", System.getProperty("java.class.path"), source.toString());
            if (failed != 0) {
                report("the examples do not compile");
                return;
            }
            try (URLClassLoader loader = new URLClassLoader(new URL[] {folder.toUri().toURL()})) {
                loader.loadClass("Examples").getMethod("run").invoke(null);
            }
        } finally {
            Files.deleteIfExists(source);
            Files.deleteIfExists(compiled);
            Files.deleteIfExists(folder);
        }
    }
}
