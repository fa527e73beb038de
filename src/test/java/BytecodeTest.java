import java.io.ByteArrayOutputStream;
import java.io.PrintStream;
import java.nio.file.Files;
import java.nio.file.Path;
import java.util.ArrayList;
import java.util.HashMap;
import java.util.List;
import java.util.Map;
import java.util.Optional;
import java.util.Set;
import java.util.TreeSet;
import java.util.regex.Matcher;
import java.util.regex.Pattern;
import java.util.spi.ToolProvider;
import java.util.stream.Stream;

/** What of LANGUAGE.md is seen best in what javac makes: the library, what is made, how deep calls go. */
public final class BytecodeTest {
    private static final Check C = new Check("BytecodeTest");
    private static final Set<String> LIBRARY = Set.of("java.lang.Object.<init>", "java.lang.Integer.bitCount",
        "java.lang.Math.min", "java.lang.Math.max", "java.lang.String.charAt", "java.lang.String.length",
        "java.lang.System.arraycopy");
    private static final int MAX_DEPTH = 8;

    private static final Pattern CLASS = Pattern.compile("^[a-z ]*class (\\S+) \\{");
    private static final Pattern METHOD = Pattern.compile("^  \\S.*?([\\w$]+)\\([^)]*\\);$");
    private static final Pattern CALL = Pattern.compile("// Method (?:([\\w/$]+)\\.)?\"?([\\w<>$]+)\"?:");
    private static final Pattern OPERATION = Pattern.compile("^ +\\d+: (\\w+)");

    private static final Map<String, Set<String>> CALLS = new HashMap<>();
    private static final Map<String, Integer> DEPTHS = new HashMap<>();

    public static void main(String[] args) throws Exception {
        Optional<ToolProvider> javap = ToolProvider.findFirst("javap");
        if (javap.isEmpty()) {
            System.out.println("BytecodeTest: this Java has no javap, nothing was looked at");
            return;
        }
        read(told(javap.get()));
        C.due("methods were found", CALLS.size() > 150, true);
        for (String method : CALLS.keySet()) {
            int deep = depth(method, new ArrayList<>());
            C.due(method + " is " + deep + " calls deep, at most eight", deep <= MAX_DEPTH, true);
        }
        C.end();
    }

    private static String told(ToolProvider javap) throws Exception {
        Path here = Path.of(HairProvince.class.getProtectionDomain().getCodeSource().getLocation().toURI());
        List<String> asked = new ArrayList<>(List.of("-p", "-c"));
        try (Stream<Path> files = Files.list(here)) {
            files.map(Path::toString).filter(f -> f.matches(".*HairProvince(\\$\\w+)?\\.class")).forEach(asked::add);
        }
        ByteArrayOutputStream out = new ByteArrayOutputStream();
        PrintStream to = new PrintStream(out);
        javap.run(to, to, asked.toArray(new String[0]));
        return out.toString();
    }

    private static void read(String text) {
        String owner = "";
        String method = "";
        for (String line : text.split("\n")) {
            Matcher m = CLASS.matcher(line);
            if (m.find()) {
                owner = m.group(1);
                continue;
            }
            m = METHOD.matcher(line);
            if (m.find()) {
                String name = m.group(1).equals(owner) ? "<init>" : m.group(1);
                method = owner + "." + name;
                CALLS.putIfAbsent(method, new TreeSet<>());
                continue;
            }
            C.due("an exception is caught in " + method, line.contains("Exception table"), false);
            m = OPERATION.matcher(line);
            if (m.find()) {
                look(owner, method, m.group(1), line);
            }
        }
    }

    private static void look(String owner, String method, String operation, String line) {
        Set<String> barred = Set.of("athrow", "invokedynamic", "invokeinterface", "monitorenter", "checkcast",
            "instanceof", "multianewarray", "putstatic");
        if (barred.contains(operation)) {
            C.due(method + " has " + line.trim(), true, false);
        }
        if (operation.equals("new") || operation.contains("newarray")) {
            C.due("made in a constructor: " + method + line, method.endsWith(".<init>"), true);
        }
        Matcher m = CALL.matcher(line);
        if (operation.startsWith("invoke") && m.find()) {
            String called = (m.group(1) == null ? owner : m.group(1).replace('/', '.')) + "." + m.group(2);
            CALLS.get(method).add(called);
            C.due("of the library or its own: " + called, called.startsWith("HairProvince") || LIBRARY.contains(called), true);
        }
    }

    /** How deep calls go, the library's too; only the GAME's plays call themselves. */
    private static int depth(String method, List<String> open) {
        Integer known = DEPTHS.get(method);
        if (known != null) {
            return known;
        }
        int most = 0;
        open.add(method);
        for (String called : CALLS.getOrDefault(method, Set.of())) {
            if (open.contains(called)) {
                C.due("calls itself: " + called + " in " + method, called.equals(method)
                    && method.equals("HairProvince$Duel.best"), true);
                continue;
            }
            most = Math.max(most, depth(called, open));
        }
        open.remove(method);
        DEPTHS.put(method, most + 1);
        return most + 1;
    }
}
