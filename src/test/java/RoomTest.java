import java.lang.management.ManagementFactory;
import java.lang.reflect.Array;
import java.lang.reflect.Field;
import java.lang.reflect.Modifier;
import java.util.IdentityHashMap;
import java.util.Map;

/** A run's calls live in one room: what an object holds is small, and no call makes anything. */
public final class RoomTest {
    private static final Check C = new Check("RoomTest");

    public static void main(String[] args) throws Exception {
        Map<Object, Boolean> seen = new IdentityHashMap<>();
        long elements = count(new HairProvince(), seen);
        System.out.println("RoomTest: an object holds " + seen.size() + " objects and arrays, " + elements
            + " fields and elements");
        C.due("fewer than 200 objects and arrays", seen.size() < 200, true);
        C.due("fewer than 10,000 fields and elements", elements < 10000, true);
        calls();
        C.end();
    }

    private static long count(Object o, Map<Object, Boolean> seen) throws Exception {
        if (o == null || o instanceof String || seen.put(o, true) != null) {
            return 0;
        }
        long sum = 0;
        if (o.getClass().isArray()) {
            int n = Array.getLength(o);
            for (int i = 0; i < n; i++) {
                sum += 1 + (o.getClass().getComponentType().isPrimitive() ? 0 : count(Array.get(o, i), seen));
            }
            return sum;
        }
        for (Field f : o.getClass().getDeclaredFields()) {
            if (!Modifier.isStatic(f.getModifiers())) {
                f.setAccessible(true);
                sum += 1 + (f.getType().isPrimitive() ? 0 : count(f.get(o), seen));
            }
        }
        return sum;
    }

    private static long allocated() {
        return ((com.sun.management.ThreadMXBean) ManagementFactory.getThreadMXBean())
            .getThreadAllocatedBytes(Thread.currentThread().getId());
    }

    private static void calls() {
        HairProvince x = new HairProvince();
        long sum = all(x);
        allocated();
        long before = allocated();
        for (int i = 0; i < 3; i++) {
            sum += all(x);
        }
        long made = allocated() - before;
        System.out.println("RoomTest: calls made " + made + " bytes (" + sum + ")");
        // A call's texts are fed by Check, which makes rows of five ints.
        C.due("calls make nothing of their own", made < 20000, true);
    }

    private static long all(HairProvince x) {
        long sum = x.province(Check.feed(x, Check.LAND)) + x.years(Check.feed(x, "loop 9;any;day 3;cut ann by bob;end;"));
        x.tray(0, 1, 60);
        for (int i = 0; i < 60; i++) {
            x.write(0, i, i % 2);
        }
        for (int i = 0; i < 50; i++) {
            x.mark();
            sum += x.live(i);
            x.mean(i, 20);
            sum += x.day(9) + x.ask(0, 0) + x.sure(0, 0) + x.unsaid(0, 0) + x.plaits(15, 0, 0) + x.plaitAt(15, 0, 0, 2);
            sum += x.game(0, 2, 3) + x.moveOf(2, 0, 3) + x.round(15) + x.oneRound() + x.rumour(0, 3) + x.tellers(0, 1);
            sum += x.hairIn(0, 200) + x.out(3) + x.learnsIn(0, 2) + x.wildIn(1) + x.quiet(0, 9) + x.quietHair(3, 200);
            x.safe(0, 2);
            sum += x.riskiest() + x.copyHair(0) + x.longest(0) + x.daysFor(15, 100) + x.lengthOf(15, 999) + x.top();
            x.pour(0, 0, 0, 5, 20);
            x.back();
        }
        return sum;
    }
}
