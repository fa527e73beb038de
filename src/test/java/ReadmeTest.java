import java.io.File;
import java.lang.reflect.Method;
import java.net.URL;
import java.net.URLClassLoader;
import java.nio.file.Files;
import java.nio.file.Path;
import java.util.ArrayList;
import java.util.List;
import java.util.Set;
import java.util.TreeSet;
import java.util.regex.Matcher;
import java.util.regex.Pattern;
import java.util.stream.Stream;
import javax.tools.JavaCompiler;
import javax.tools.ToolProvider;

/** What README.md tells: its Java is compiled and run, each answer told behind a call is due. */
public final class ReadmeTest {
    private static final Check C = new Check("ReadmeTest");
    private static final Pattern TOLD = Pattern.compile("^(x\\..*\\)); +// (-?\\d+|true|false)(:.*)?$");

    public static void main(String[] args) throws Exception {
        String readme = Files.readString(Path.of("README.md"));
        List<String> blocks = blocks(readme);
        C.due("blocks of Java", blocks.size(), 2);
        if (blocks.size() == 2) {
            run(blocks.get(0), blocks.get(1));
        }
        tests(readme);
        C.end();
    }

    /** The Java that was compiled calls these. */
    public static void due(String call, long got, long want) {
        C.due(call, got, want);
    }

    public static void due(String call, boolean got, boolean want) {
        C.due(call, got, want);
    }

    private static List<String> blocks(String readme) {
        List<String> found = new ArrayList<>();
        Matcher m = Pattern.compile("(?s)```java\n(.*?)```").matcher(readme);
        while (m.find()) {
            found.add(m.group(1));
        }
        return found;
    }

    private static void run(String helper, String statements) throws Exception {
        StringBuilder source = new StringBuilder("public final class Told {\n").append(helper);
        source.append("public static void run() {\n");
        int calls = 0;
        for (String line : statements.split("\n")) {
            Matcher m = TOLD.matcher(line);
            if (m.find()) {
                source.append("ReadmeTest.due(\"").append(m.group(1)).append("\", ").append(m.group(1)).append(", ")
                    .append(m.group(2)).append(");\n");
                calls++;
            } else {
                C.due("a call without its answer: " + line, line.startsWith("x."), false);
                source.append(line).append('\n');
            }
        }
        C.due("calls with answers", calls > 30, true);
        source.append("}\n}\n");
        Path dir = Files.createTempDirectory("readme");
        Path file = dir.resolve("Told.java");
        Files.writeString(file, source);
        String here = new File(ReadmeTest.class.getProtectionDomain().getCodeSource().getLocation().toURI()).getPath();
        JavaCompiler javac = ToolProvider.getSystemJavaCompiler();
        int failed = javac.run(null, null, null, "-cp", here, "-d", dir.toString(), file.toString());
        C.due("README's Java is compiled", failed, 0);
        if (failed == 0) {
            try (URLClassLoader loader = new URLClassLoader(new URL[] {dir.toUri().toURL()})) {
                Method run = loader.loadClass("Told").getMethod("run");
                run.invoke(null);
            }
        }
        try (Stream<Path> files = Files.list(dir)) {
            for (Path p : files.toList()) {
                Files.delete(p);
            }
        }
        Files.delete(dir);
    }

    /** The table names each test, and none that is not there. */
    private static void tests(String readme) throws Exception {
        Set<String> there = new TreeSet<>();
        try (Stream<Path> files = Files.list(Path.of("src/test/java"))) {
            files.map(p -> p.getFileName().toString().replace(".java", "")).filter(f -> f.endsWith("Test"))
                .forEach(there::add);
        }
        Set<String> named = new TreeSet<>();
        Matcher m = Pattern.compile("(?m)^\\| (\\w+Test(?:, \\w+Test)*) \\|").matcher(readme);
        while (m.find()) {
            named.addAll(List.of(m.group(1).split(", ")));
        }
        C.due("tests in README's table " + named + ", those that are there " + there, named.equals(there), true);
    }
}
