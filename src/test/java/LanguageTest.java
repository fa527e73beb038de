import java.lang.reflect.Constructor;
import java.lang.reflect.Field;
import java.lang.reflect.Method;
import java.lang.reflect.Modifier;
import java.nio.file.Files;
import java.nio.file.Path;
import java.util.ArrayList;
import java.util.List;
import java.util.Set;
import java.util.TreeSet;
import java.util.regex.Matcher;
import java.util.regex.Pattern;

/** The face as the document's code block gives it, and what of LANGUAGE.md can be seen by looking. */
public final class LanguageTest {
    private static final Check C = new Check("LanguageTest");

    public static void main(String[] args) throws Exception {
        face();
        classes();
        source();
        C.end();
    }

    private static void face() throws Exception {
        Set<String> due = new TreeSet<>();
        String doc = Files.readString(Path.of("../shared/DOC.md"));
        Matcher m = Pattern.compile("\\n    public (\\w+) (\\w+)\\(([^)]*)\\);").matcher(doc);
        while (m.find()) {
            StringBuilder types = new StringBuilder();
            for (String p : m.group(3).isEmpty() ? new String[0] : m.group(3).split(", ")) {
                types.append(p.split(" ")[0]).append(' ');
            }
            due.add(m.group(1) + " " + m.group(2) + " " + types);
        }
        C.due("the document's methods", due.size(), 56);
        Set<String> got = new TreeSet<>();
        for (Method method : HairProvince.class.getDeclaredMethods()) {
            if (Modifier.isPublic(method.getModifiers())) {
                StringBuilder types = new StringBuilder();
                for (Class<?> type : method.getParameterTypes()) {
                    types.append(type).append(' ');
                }
                got.add(method.getReturnType() + " " + method.getName() + " " + types);
                C.due(method.getName() + " is of objects", Modifier.isStatic(method.getModifiers()), false);
            } else {
                C.due(method.getName() + " is private", Modifier.isPrivate(method.getModifiers()), true);
            }
        }
        C.due("the face " + got + " is as " + due, got.equals(due), true);
        Constructor<?>[] made = HairProvince.class.getDeclaredConstructors();
        C.due("constructors", made.length, 1);
        C.due("a public one without parameters", made[0].getParameterCount() == 0
            && Modifier.isPublic(made[0].getModifiers()), true);
        C.due("the class is public and final", HairProvince.class.getModifiers(), Modifier.PUBLIC | Modifier.FINAL);
        for (Field f : HairProvince.class.getDeclaredFields()) {
            C.due("the field " + f, Modifier.isPublic(f.getModifiers()), f.getName().equals("NONE"));
            C.due("the field " + f, !Modifier.isPublic(f.getModifiers()) == Modifier.isPrivate(f.getModifiers()), true);
        }
    }

    private static void classes() {
        Set<String> names = new TreeSet<>();
        for (Method m : HairProvince.class.getDeclaredMethods()) {
            if (Modifier.isPublic(m.getModifiers())) {
                names.add(m.getName());
            }
        }
        List<Class<?>> all = new ArrayList<>(List.of(HairProvince.class.getDeclaredClasses()));
        for (Class<?> c : all) {
            C.due(c + " is static", Modifier.isStatic(c.getModifiers()), true);
        }
        all.add(HairProvince.class);
        C.due("at most twelve classes", all.size() <= 12, true);
        for (Class<?> c : all) {
            int fields = 0;
            for (Field f : c.getDeclaredFields()) {
                fields += Modifier.isStatic(f.getModifiers()) ? 0 : 1;
                C.due("no static field that changes: " + f,
                    !Modifier.isStatic(f.getModifiers()) || Modifier.isFinal(f.getModifiers()), true);
            }
            C.due("at most twenty fields in " + c, fields <= 20, true);
            for (Method m : c.getDeclaredMethods()) {
                C.due("seven parameters at most: " + m, m.getParameterCount() <= 7, true);
                boolean ofTheFace = c == HairProvince.class && Modifier.isPublic(m.getModifiers());
                C.due("no name of a public one: " + m, !ofTheFace && names.contains(m.getName()), false);
            }
        }
    }

    private static void source() throws Exception {
        String raw = Files.readString(Path.of("src/main/java/HairProvince.java"));
        String text = raw.replaceAll("(?s)/\\*.*?\\*/", "").replaceAll("//[^\n]*", "").replaceAll("\"[^\"\n]*\"", "\"\"");
        for (String word : new String[] {"throw", "throws", "try", "catch", "finally", "synchronized", "assert", "import",
            "package", "goto", "var", "yield", "volatile", "native", "Object", "Thread", "Random", "System\\.(?!arraycopy)",
            "Math\\.\\w+Exact", "float", "double"}) {
            C.due("the source has " + word, Pattern.compile("\\b" + word + (word.matches("\\w+") ? "\\b" : "")).matcher(text).find(),
                false);
        }
        C.due("no lambda", text.contains("->"), false);
        C.due("no method reference", text.contains("::"), false);
        C.due("no initialiser block", Pattern.compile("\\bstatic\\s*\\{").matcher(text).find(), false);
        C.due("no joining of texts by +", Pattern.compile("\"\\s*\\+|\\+\\s*\"").matcher(text).find(), false);
        int opened = 0;
        String[] lines = raw.split("\n");
        for (int i = 0; i < lines.length; i++) {
            if (lines[i].matches("(    |        )(private|public) .*\\) \\{")) {
                opened = i;
            }
            if (lines[i].matches("(    |        )\\}")) {
                C.due("sixty lines at most, from line " + (opened + 1), i - opened <= 60 || lines[opened].contains("class"), true);
            }
        }
        // Objects are made in constructors and initialisers alone.
        Matcher made = Pattern.compile("\n {12}[^\n]*\\bnew ").matcher(text);
        while (made.find()) {
            C.due("made in a constructor: " + made.group(), made.group().contains("marked"), true);
        }
    }
}
