import java.lang.reflect.InvocationTargetException;
import java.lang.reflect.Method;
import java.lang.reflect.Modifier;
import java.util.ArrayList;
import java.util.Arrays;
import java.util.Comparator;
import java.util.List;
import java.util.Map;
import java.util.Random;
import java.util.Set;
import java.util.TreeMap;

/**
 * Runs of calls by seeds, on the class and on Model: answers, STATUS and FRACTION must be alike.
 * Arguments: how many runs, the first seed.
 */
public final class ModelTest {
    private static final int CALLS = 512;
    private static final Set<String> WITHOUT_STATUS = Set.of("status", "top", "bottom", "feed", "fault");
    private static final Set<String> WITHOUT_DRAW = Set.of("status", "top", "bottom", "feed", "province", "years");
    private static final String[] WORDS = {"plot", "love", "debt", "name", "a", "bb", "lie", "secretly", "oath"};
    private static final String[] PEOPLE = {"ann", "bob", "cid", "dot", "eve", "fay", "gus"};

    private final Random random;
    private final HairProvince real = new HairProvince();
    private final Model model = new Model();
    private final List<String> log = new ArrayList<>();
    private final Map<String, Integer> counts;

    private ModelTest(long seed, Map<String, Integer> counts) {
        random = new Random(seed);
        this.counts = counts;
    }

    public static void main(String[] args) throws Exception {
        int runs = args.length > 0 ? Integer.parseInt(args[0]) : 150;
        long first = args.length > 1 ? Long.parseLong(args[1]) : 1;
        Map<String, Integer> counts = new TreeMap<>();
        for (long seed = first; seed < first + runs; seed++) {
            String wrong = new ModelTest(seed, counts).run();
            if (wrong != null) {
                System.out.println("seed " + seed + ": " + wrong);
                System.exit(1);
            }
        }
        if (args.length > 0) {
            counts.forEach((k, v) -> System.out.println(k + " " + v));
        }
        System.out.println("ModelTest: " + runs + " runs are alike");
    }

    private String run() throws Exception {
        List<Method> face = new ArrayList<>();
        for (Method m : HairProvince.class.getDeclaredMethods()) {
            if (Modifier.isPublic(m.getModifiers()) && !WITHOUT_DRAW.contains(m.getName())) {
                face.add(m);
            }
        }
        face.sort(Comparator.comparing(Method::getName));
        String wrong = null;
        for (int i = 0; i < CALLS && wrong == null; i++) {
            int what = i == 0 ? 0 : random.nextInt(100);
            if (what < 3) {
                wrong = text("province", provinceText(), i == 0);
            } else if (what < 7) {
                wrong = text("years", yearsText(), false);
            } else if (what < 14) {
                wrong = tellTwos();
            } else {
                Method m = face.get(random.nextInt(face.size()));
                wrong = call(m.getName(), arguments(m));
            }
        }
        return wrong;
    }

    /** Null if both answer alike. */
    private String call(String name, Object... args) throws Exception {
        Class<?>[] types = new Class<?>[args.length];
        for (int i = 0; i < args.length; i++) {
            types[i] = args[i] instanceof Integer ? int.class : args[i] instanceof Long ? long.class : boolean.class;
        }
        log.add(name + Arrays.toString(args));
        Object got = HairProvince.class.getMethod(name, types).invoke(real, args);
        long gotNumber = got instanceof Boolean b ? (b ? 1 : 0) : ((Number) got).longValue();
        boolean isBoolean = got instanceof Boolean;
        long due;
        Method m = Model.class.getDeclaredMethod(name, types);
        try {
            due = (Long) m.invoke(model, args);
            if (!WITHOUT_STATUS.contains(name)) {
                model.status = 0;
            }
        } catch (InvocationTargetException e) {
            if (!(e.getCause() instanceof Model.Not not)) {
                throw e;
            }
            model.status = not.status;
            due = isBoolean ? 0 : -1;
        }
        counts.merge(name + " " + (WITHOUT_STATUS.contains(name) ? "" : "" + model.status), 1, Integer::sum);
        if (gotNumber != due || real.status() != model.status || real.top() != model.top
                || real.bottom() != model.bottom) {
            return String.join("\n", log) + "\nanswered " + gotNumber + ", STATUS " + real.status() + ", " + real.top()
                + " by " + real.bottom() + "; due is " + due + ", STATUS " + model.status + ", " + model.top + " by "
                + model.bottom;
        }
        return null;
    }

    private String text(String name, String text, boolean whole) throws Exception {
        String mutated = whole || random.nextInt(3) > 0 ? text : mutate(text);
        log.add("\"" + mutated + "\"");
        int n = Math.min(mutated.length(), name.equals("years") ? 300 : 900);
        for (int i = 0; i < n; i += 20) {
            int[] five = new int[5];
            for (int k = 0; k < 20; k++) {
                int b = i + k < mutated.length() ? mutated.charAt(i + k) : 32;
                five[k / 4] = five[k / 4] << 8 | b & 255;
            }
            String wrong = call("feed", five[0], five[1], five[2], five[3], five[4]);
            if (wrong != null) {
                return wrong;
            }
        }
        String wrong = call(name, random.nextInt(20) == 0 ? random.nextInt(920) - 10 : n);
        wrong = wrong != null ? wrong : call("fault", 0);
        return wrong != null ? wrong : call("fault", 1);
    }

    private int to(int n) {
        return random.nextInt(n + 1);
    }

    private String oneOf(String[] of, int n) {
        return of[random.nextInt(Math.max(1, Math.min(n, of.length)))];
    }

    /** Two that are seldom the same. */
    private String two(String[] of, int n) {
        int most = Math.min(n, of.length);
        int a = random.nextInt(most);
        int b = to(60) == 0 ? a : (a + 1 + random.nextInt(most - 1)) % most;
        return of[a] + " " + of[b];
    }

    private String provinceText() {
        StringBuilder s = new StringBuilder();
        if (to(2) == 0) {
            s.append("heard ").append(to(8)).append(";");
        }
        if (to(2) > 0) {
            s.append("odds ").append(to(16)).append(" ;\n");
        }
        int words = to(9) == 0 ? to(9) : 2 + to(5);
        for (int w = 0; w < words; w++) {
            s.append("word ").append(WORDS[w]);
            s.append(to(2) > 0 ? " grows " + (1 + to(to(60) == 0 ? 9 : 8)) : "");
            s.append(to(2) > 0 ? " grey " + (1 + to(to(1) == 0 ? 8 : 98)) : "").append(";");
        }
        int people = to(9) == 0 ? to(7) : 2 + to(4);
        for (int p = 0; p < people; p++) {
            s.append("person ").append(PEOPLE[p]);
            s.append(to(3) > 0 ? " temper " + to(to(2) > 0 ? 20 : 200) : "").append(to(1) == 0 ? " barber" : "");
            if (to(4) > 0) {
                s.append(" keeps");
                for (int w = 0; w < words; w++) {
                    s.append(to(2) == 0 ? " " + WORDS[w] : "");
                }
            }
            s.append(";");
        }
        int dinners = people < 2 ? 0 : to(30) == 0 ? 7 : to(6);
        for (int d = 0; d < dinners; d++) {
            s.append("dinner ").append(two(PEOPLE, people));
            s.append(" every ").append(1 + to(to(3) > 0 ? 6 : 29)).append(";");
        }
        int halves = words < 2 ? 0 : to(30) == 0 ? 7 : to(5);
        for (int h = 0; h < halves; h++) {
            s.append("halves ").append(two(WORDS, words)).append(";");
        }
        return s.toString();
    }

    private String yearsText() {
        StringBuilder s = new StringBuilder();
        steps(s, 0);
        if (to(20) == 0) {
            while (s.length() < 220) {
                s.append("any;");
            }
        }
        return s.toString();
    }

    private void steps(StringBuilder s, int depth) {
        int many = depth == 0 ? to(10) : to(3);
        int words = (int) model.many(0);
        int people = (int) model.many(1);
        for (int i = 0; i < many && s.length() < 260; i++) {
            String p = oneOf(PEOPLE, people + (to(15) == 0 ? 1 : 0)) + " ";
            String w = oneOf(WORDS, words + (to(15) == 0 ? 1 : 0));
            String q = oneOf(PEOPLE, people);
            switch (to(9)) {
                case 0, 1 -> s.append("day ").append(to(40) == 0 ? to(25) : 1 + to(6));
                case 2 -> s.append("keep ").append(p).append(w);
                case 3 -> s.append("say ").append(p).append(w).append(" to ").append(q);
                case 4 -> s.append("cut ").append(p).append("by ").append(q);
                case 5 -> s.append("any");
                case 6, 7, 8 -> {
                    if (depth < 3 || to(10) == 0) {
                        String sign = new String[] {"<", ">", "="}[to(2)];
                        s.append(to(1) == 0 ? "loop " + (1 + to(to(5) == 0 ? 98 : 4)) : to(1) == 0
                            ? "when knows " + p + w : "when hair " + p + sign + to(15)).append(";");
                        steps(s, depth + 1);
                        s.append("end");
                    } else {
                        s.append("any");
                    }
                }
                default -> s.append(to(4) == 0 ? "stop" : "any");
            }
            s.append(";");
        }
    }

    private String mutate(String text) {
        StringBuilder s = new StringBuilder(text);
        String[] bits = {";", " ", "end", "when", "loop 2;", "5", "12345", "!", "keeps", "word", "ann", "plot", "<",
            "heard 1;", "odds 2;", "ninelette", "eightlet", "A", "\n", "\t", "0", "999", "9999", "person zed;",
            "hair", "to", "by", "temper 5", "day 1;", "stop;", "" + (char) 228, "" + (char) 0};
        for (int i = to(2); i >= 0; i--) {
            int at = random.nextInt(s.length() + 1);
            switch (to(2)) {
                case 0 -> s.insert(at, bits[random.nextInt(bits.length)]);
                case 1 -> s.delete(at, Math.min(s.length(), at + 1 + to(6)));
                default -> {
                    int from = Math.max(0, s.lastIndexOf(" ", at));
                    s.replace(from, Math.min(s.length(), from + 1 + to(4)), " " + bits[random.nextInt(bits.length)]);
                }
            }
        }
        return s.toString();
    }

    /** A TRAY with twos that some set fits, or with twos of WORDS. */
    private String tellTwos() throws Exception {
        int tray = to(3);
        int n = to(3);
        int words = (int) model.many(0);
        String wrong = call("tray", tray, 1 + to(2), 2 * n + to(2));
        boolean lengths = to(1) == 0;
        int set = random.nextInt(1 << words);
        for (int i = 0; i < n && wrong == null; i++) {
            int days = to(40);
            long first = lengths ? days : random.nextInt(words + (to(10) == 0 ? 2 : 1));
            long second = lengths ? model.length(set, days) + (to(12) == 0 ? to(4) - 2 : 0) : to(Math.max(0, words - 1));
            wrong = call("write", tray, 2 * i, first);
            wrong = wrong != null ? wrong : call("write", tray, 2 * i + 1, second);
        }
        String[] names = lengths ? new String[] {"unsaid", "sure", "ask"} : new String[] {"plaits", "plaitAt"};
        String name = names[random.nextInt(names.length)];
        if (wrong != null || lengths) {
            return wrong != null ? wrong : call(name, tray, n);
        }
        return name.equals("plaits") ? call(name, set, tray, n) : call(name, set, tray, n, to(8) - 1);
    }

    private Object[] arguments(Method m) {
        Class<?>[] types = m.getParameterTypes();
        Object[] args = new Object[types.length];
        for (int i = 0; i < args.length; i++) {
            if (types[i] == boolean.class) {
                args[i] = random.nextBoolean();
            } else if (types[i] == long.class) {
                args[i] = to(1) == 0 ? (long) to(300) - 50 : random.nextLong();
            } else {
                args[i] = number(m.getName(), i);
            }
        }
        return args;
    }

    private int number(String name, int i) {
        if (to(25) == 0) {
            return new int[] {-1, -2, Integer.MIN_VALUE, Integer.MAX_VALUE, 61, 100, 201, 1000, 10000}[to(8)];
        }
        switch (name + i) {
            case "day0":
                return to(8) == 0 ? 99 : to(12);
            case "train1":
                return to(30);
            case "rule0":
                return 3 + to(3);
            case "rule1":
                return to(20);
            case "invite2":
                return to(10) == 0 ? to(31) : 1 + to(5);
            case "hairIn1", "knownIn1", "quiet1", "quietHair1":
                return to(5) == 0 ? to(201) : to(30);
            case "lengthOf0", "daysFor0", "plaits0", "plaitAt0":
                return to((1 << model.st.words.size()) - (to(10) == 0 ? 0 : 1));
            case "round0":
                return to((1 << model.st.people.size()) - (to(10) == 0 ? 0 : 1));
            case "lengthOf1", "daysFor1":
                return to(5) == 0 ? to(10050) : to(120);
            case "game2", "moveOf2":
                return to(6) == 0 ? to(4) : 1 + to(2);
            case "live0", "mean0":
                return to(9999);
            case "mean1":
                return to(20) == 0 ? to(21) : 1 + to(5);
            case "many0":
                return to(11);
            case "tray2", "pour4":
                return to(8);
            default:
                return to(10) == 0 ? to(9) : to(4);
        }
    }
}
