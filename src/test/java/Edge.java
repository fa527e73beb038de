import java.lang.reflect.Method;
import java.util.List;
import java.util.function.Supplier;

/**
 * Calls told by their names and rows of arguments ("0 -1 true min max"), each on an object that is made anew, so that
 * what else a call changes can be seen.
 */
final class Edge {
    private final Check check;
    private Supplier<HairProvince> made;
    private List<String> before;
    private List<String> beforeWithoutFraction;

    Edge(Check check) {
        this.check = check;
    }

    /** From now on calls are made of such objects. */
    void on(Supplier<HairProvince> maker) {
        made = maker;
        before = Seen.all(maker.get(), true);
        beforeWithoutFraction = Seen.all(maker.get(), false);
    }

    static long ask(HairProvince x, String name, String row) {
        for (Method m : HairProvince.class.getMethods()) {
            if (m.getName().equals(name)) {
                String[] told = row.isEmpty() ? new String[0] : row.split(" ");
                Object[] args = new Object[told.length];
                for (int i = 0; i < args.length; i++) {
                    args[i] = argument(told[i], m.getParameterTypes()[i]);
                }
                try {
                    Object got = m.invoke(x, args);
                    return got instanceof Boolean b ? (b ? 1 : 0) : ((Number) got).longValue();
                } catch (ReflectiveOperationException e) {
                    throw new IllegalStateException(name + "(" + row + "): " + e.getCause(), e);
                }
            }
        }
        throw new IllegalStateException("no call " + name);
    }

    private static Object argument(String told, Class<?> type) {
        if (type == boolean.class) {
            return told.equals("true");
        }
        if (type == long.class) {
            return told.equals("min") ? Long.MIN_VALUE : told.equals("max") ? Long.MAX_VALUE : Long.parseLong(told);
        }
        return told.equals("min") ? Integer.MIN_VALUE : told.equals("max") ? Integer.MAX_VALUE : Integer.parseInt(told);
    }

    private static boolean isBoolean(String name) {
        for (Method m : HairProvince.class.getMethods()) {
            if (m.getName().equals(name)) {
                return m.getReturnType() == boolean.class;
            }
        }
        return false;
    }

    /** Calls that are refused: NONE or false, the STATUS, and nothing else is changed. */
    void no(int status, String name, String... rows) {
        for (String row : rows) {
            String call = name + "(" + row + ")";
            HairProvince x = made.get();
            check.due(call, ask(x, name, row), isBoolean(name) ? 0 : -1);
            check.due(call + ", its STATUS", x.status(), status);
            same(call, Seen.unlike(before, Seen.all(x, true)));
        }
    }

    /** A question: its answer, STATUS 0, and nothing is changed. */
    void gives(long due, String name, String... rows) {
        for (String row : rows) {
            String call = name + "(" + row + ")";
            HairProvince x = made.get();
            check.due(call, ask(x, name, row), due);
            check.due(call + ", its STATUS", x.status(), 0);
            same(call, Seen.unlike(before, Seen.all(x, true)));
        }
    }

    /** A question that tells a FRACTION; nothing else is changed. */
    void tells(long top, long bottom, String name, String... rows) {
        for (String row : rows) {
            String call = name + "(" + row + ")";
            HairProvince x = made.get();
            check.due(call, ask(x, name, row), 1);
            check.due(call + ", its STATUS", x.status(), 0);
            check.fraction(x, call, top, bottom);
            same(call, Seen.unlike(beforeWithoutFraction, Seen.all(x, false)));
        }
    }

    /** A deed: its answer, STATUS 0. */
    HairProvince does(long due, String name, String row) {
        HairProvince x = made.get();
        check.due(name + "(" + row + ")", ask(x, name, row), due);
        check.due(name + "(" + row + "), its STATUS", x.status(), 0);
        return x;
    }

    private void same(String call, String unlike) {
        check.due(call + " changed something: " + unlike, unlike == null, true);
    }
}
