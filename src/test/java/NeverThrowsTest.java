import java.lang.reflect.Method;
import java.lang.reflect.Modifier;

/** Each call with numbers from the ends of what there is, in several states: none may throw. */
public final class NeverThrowsTest {
    private static final Check C = new Check("NeverThrowsTest");
    private static final int[] ENDS = {Integer.MIN_VALUE, -1, 0, 1, 5, 7, 8, 60, 255, Integer.MAX_VALUE};
    private static final String FULL = "heard 0;odds 16;word a grows 9 grey 99;word b grows 9 grey 99;word c;word d;word e;"
        + "word f;word g;word h;person p temper 0 barber keeps a b c d e f g h;person q temper 0 barber;person r keeps h;"
        + "person s barber;person t;person u temper 999;dinner p q every 1;dinner q r every 30;dinner u p every 2;"
        + "dinner s t every 3;dinner t u every 4;dinner r s every 5;halves a b;halves c d;halves e f;halves a h;halves b h;"
        + "halves g h;";

    public static void main(String[] args) throws Exception {
        for (int state = 0; state < 4; state++) {
            for (Method m : HairProvince.class.getDeclaredMethods()) {
                if (Modifier.isPublic(m.getModifiers())) {
                    HairProvince x = made(state);
                    calls(x, m, new Object[m.getParameterCount()], 0);
                }
            }
        }
        C.end();
    }

    private static HairProvince made(int state) {
        HairProvince x = new HairProvince();
        if (state > 0) {
            x.province(Check.feed(x, state == 1 ? "word a;" : state == 2 ? Check.LAND : FULL));
        }
        if (state == 3) {
            x.years(Check.feed(x, "loop 99;loop 99;loop 99;any;end;day 20;cut p by q;end;end;"));
            x.live(77);
            x.mark();
            x.mark();
            x.mark();
        }
        for (int tray = 0; tray < state; tray++) {
            Check.fill(x, tray, 0, 1, 2, 3, 40, 1, 7, 7, Long.MAX_VALUE, Long.MIN_VALUE, -1, 0, 0, 0, 0, 0);
        }
        return x;
    }

    private static void calls(HairProvince x, Method m, Object[] args, int i) throws Exception {
        if (i == args.length) {
            try {
                m.invoke(x, args);
                C.due(m.getName() + ", a STATUS that there is", x.status() >= 0 && x.status() <= 11, true);
                C.due(m.getName() + ", the bottom", x.bottom() > 0, true);
            } catch (ReflectiveOperationException e) {
                C.due(m + " with " + java.util.Arrays.toString(args) + " threw " + e.getCause(), 1, 0);
            }
            return;
        }
        Class<?> type = m.getParameterTypes()[i];
        // Five numbers at once would be too many: the later ones come from fewer.
        for (int k = 0; k < ENDS.length; k += i < 3 ? 1 : 3) {
            args[i] = type == boolean.class ? (Object) (k % 2 == 0) : type == long.class ? (Object) (long) ENDS[k] : ENDS[k];
            calls(x, m, args, i + 1);
        }
    }
}
