import java.io.IOException;
import java.lang.reflect.InvocationTargetException;
import java.lang.reflect.Method;
import java.lang.reflect.Modifier;
import java.net.URL;
import java.net.URLClassLoader;
import java.nio.file.Files;
import java.nio.file.Path;
import java.util.ArrayList;
import java.util.List;
import java.util.regex.Matcher;
import java.util.regex.Pattern;
import java.util.stream.Stream;
import javax.tools.JavaCompiler;
import javax.tools.ToolProvider;

/** README.md's example is compiled as it stands and answers what its lines tell; no call and no test is left out. */
public final class ReadmeTest {
    /** A name or none, the call, the call's name, the answer that is told or none. */
    private static final Pattern LINE = Pattern.compile(
        "(?:int (\\w+) = )?(x\\.(\\w+)\\(.*\\)); *// (?:(-?\\d+|\\w+Exception)\\b)?.*");
    private static final String HEAD = "public class Example { public static void run(java.util.List<String> told) {\n";
    private static int wrong = 0;

    private static void check(boolean fine, String what) {
        if (!fine) {
            wrong++;
            System.out.println("not as due: " + what);
        }
    }

    private static List<String> example(String readme) {
        Matcher block = Pattern.compile("(?s)```java\n(.*?)```").matcher(readme);
        check(block.find(), "an example");
        return List.of(block.group(1).split("\n"));
    }

    /** The line itself, then its answer told; a name of the line's own is kept for the lines behind it. */
    private static String asCode(String line) {
        Matcher m = LINE.matcher(line);
        if (!m.matches()) {
            check(line.equals("RangeArenas x = new RangeArenas();"), "a line that the test can read: " + line);
            return line;
        }
        String call = m.group(2);
        if (m.group(3).equals("bounds")) {
            return call + "; told.add(\"\");";
        }
        if (m.group(1) != null) {
            return line.substring(0, line.indexOf("//")) + "told.add(\"\" + " + m.group(1) + ");";
        }
        return "try { told.add(\"\" + " + call + "); }"
            + " catch (RuntimeException e) { told.add(e.getClass().getSimpleName()); }";
    }

    private static void compile(Path dir, List<String> lines) throws IOException {
        StringBuilder code = new StringBuilder(HEAD);
        for (String line : lines) {
            code.append(asCode(line)).append('\n');
        }
        Path file = dir.resolve("Example.java");
        Files.writeString(file, code.append("} }\n"));
        JavaCompiler compiler = ToolProvider.getSystemJavaCompiler();
        int failed = compiler.run(null, null, null, "-cp", System.getProperty("java.class.path"), "-d", dir.toString(),
            file.toString());
        check(failed == 0, "the example compiles");
    }

    private static List<String> run(Path dir) throws IOException, ReflectiveOperationException {
        List<String> told = new ArrayList<>();
        try (URLClassLoader loader = new URLClassLoader(new URL[] {dir.toUri().toURL()})) {
            loader.loadClass("Example").getMethod("run", List.class).invoke(null, told);
        } catch (InvocationTargetException e) {
            check(false, "the example throws " + e.getCause());
        }
        return told;
    }

    private static void checkExample(String readme) throws IOException, ReflectiveOperationException {
        List<String> lines = example(readme);
        Path dir = Files.createTempDirectory("readme");
        try {
            compile(dir, lines);
            List<String> told = run(dir);
            check(told.size() == lines.size() - 1, "every line was gone");
            for (int i = 0; i < told.size(); i++) {
                Matcher m = LINE.matcher(lines.get(i + 1));
                String due = m.matches() && m.group(4) != null ? m.group(4) : "";
                check(told.get(i).equals(due), "it answers " + told.get(i) + ": " + lines.get(i + 1));
            }
        } finally {
            Files.deleteIfExists(dir.resolve("Example.java"));
            Files.deleteIfExists(dir.resolve("Example.class"));
            Files.deleteIfExists(dir);
        }
    }

    private static void checkNames(String readme) throws IOException {
        for (Method m : RangeArenas.class.getDeclaredMethods()) {
            if (Modifier.isPublic(m.getModifiers())) {
                check(readme.contains("- `" + m.getName() + "("), "README.md tells of " + m.getName());
                check(readme.contains("x." + m.getName() + "("), "the example uses " + m.getName());
            }
        }
        try (Stream<Path> tests = Files.list(Path.of("src/test/java"))) {
            tests.map(p -> p.getFileName().toString().replace(".java", ""))
                .forEach(name -> check(readme.contains("`" + name + "`"), "README.md names the test " + name));
        }
    }

    public static void main(String[] args) throws IOException, ReflectiveOperationException {
        String readme = Files.readString(Path.of("README.md"));
        checkExample(readme);
        checkNames(readme);
        System.out.println(wrong == 0 ? "README.md is as due" : wrong + " things are not as due");
        if (wrong != 0) {
            System.exit(1);
        }
    }
}
