import java.util.ArrayList;
import java.util.List;

/**
 * All that an object tells, line by line, so that two of them can be held against each other. Looking uses the object
 * up: it lives its YEARS, goes back to each MARK and empties the tape, by some 300 calls.
 */
final class Seen {
    private final HairProvince x;
    private final List<String> lines = new ArrayList<>();

    private Seen(HairProvince x) {
        this.x = x;
    }

    /** What is there but for the FRACTION, the FAULT and the tape. */
    static List<String> world(HairProvince x) {
        Seen s = new Seen(x);
        s.told();
        s.later();
        return s.lines;
    }

    /** All of it; the FRACTION perhaps not. */
    static List<String> all(HairProvince x, boolean fraction) {
        Seen s = new Seen(x);
        if (fraction) {
            s.put("top()", x.top());
            s.put("bottom()", x.bottom());
        }
        s.put("fault(0)", x.fault(0));
        s.put("fault(1)", x.fault(1));
        s.told();
        s.later();
        s.tape();
        return s.lines;
    }

    /** The first line that is not alike; null if there is none. */
    static String unlike(List<String> a, List<String> b) {
        for (int i = 0; i < Math.max(a.size(), b.size()); i++) {
            String one = i < a.size() ? a.get(i) : "nothing";
            String two = i < b.size() ? b.get(i) : "nothing";
            if (!one.equals(two)) {
                return one + " and " + two;
            }
        }
        return null;
    }

    private void put(String call, long answer) {
        lines.add(call + " = " + answer);
    }

    private void told() {
        for (int what = 0; what <= 10; what++) {
            put("many(" + what + ")", x.many(what));
        }
        int words = x.many(0);
        int people = x.many(1);
        for (int w = 0; w < words; w++) {
            for (int what = 0; what < 5; what++) {
                put("word(" + w + ", " + what + ")", x.word(w, what));
            }
        }
        for (int p = 0; p < people; p++) {
            for (int what = 0; what < 5; what++) {
                put("person(" + p + ", " + what + ")", x.person(p, what));
            }
            int kept = x.person(p, 3);
            for (int w = 0; w < words; w++) {
                for (int what = 0; what < 2 && (kept >> w & 1) == 1; what++) {
                    put("strand(" + p + ", " + w + ", " + what + ")", x.strand(p, w, what));
                }
            }
        }
        for (int d = 0; d < x.many(2); d++) {
            for (int what = 0; what < 3; what++) {
                put("dinner(" + d + ", " + what + ")", x.dinner(d, what));
            }
        }
        for (int what = 0; what < 5; what++) {
            put("lived(" + what + ")", x.lived(what));
        }
        trays();
    }

    private void trays() {
        for (int tray = 0; tray < 4; tray++) {
            long last = 0;
            for (int i = 0; i <= 60; i++) {
                last = x.read(tray, i);
                if (last == -1 && x.status() != 0) {
                    break;
                }
                put("read(" + tray + ", " + i + ")", last);
            }
            put("read of " + tray + " ends by STATUS", x.status());
            x.write(tray, 0, 0x8182838485868788L);
            put("what " + tray + " cuts to", x.read(tray, 0));
        }
    }

    /** What becomes of it: the YEARS lived, and so behind each MARK. */
    private void later() {
        for (int i = 0; i < 5; i++) {
            put("live(9)", x.live(9));
            put("lived(0)", x.lived(0));
            put("lived(2)", x.lived(2));
            put("many(6)", x.many(6));
            put("many(8)", x.many(8));
            put("many(9)", x.many(9));
            put("many(10)", x.many(10));
            int left = x.back();
            put("back()", left);
            if (left == -1) {
                return;
            }
        }
    }

    /** The tape comes last, being read as a PROVINCE. */
    private void tape() {
        int size = x.feed(0x20202020, 0x20202020, 0x20202020, 0x20202020, 0x20202020);
        put("feed", size);
        put("province", x.province(size == -1 ? 900 : size));
        put("fault(0) of the tape", x.fault(0));
        put("fault(1) of the tape", x.fault(1));
        put("many(0) by the tape", x.many(0));
        put("many(4) by the tape", x.many(4));
    }
}
