/** Promises 1 to 8. */
public final class TraysTest {
    private static final Check C = new Check("TraysTest");

    public static void main(String[] args) {
        newObject();
        statusAndFraction();
        making();
        writing();
        pouring();
        C.end();
    }

    private static void newObject() {
        HairProvince x = new HairProvince();
        C.due("status()", x.status(), 0);
        C.fraction(x, "a new object", 0, 1);
        C.due("fault(0)", x.fault(0), -1);
        C.due("fault(1)", x.fault(1), -1);
        for (int what = 0; what <= 10; what++) {
            C.gives(x, "many(" + what + ")", x.many(what), what == 4 ? 3 : what == 5 ? 1 : 0);
        }
        for (int tray = 0; tray < 4; tray++) {
            C.fails(x, "read(" + tray + ", 0)", x.read(tray, 0), 3);
        }
        C.fails(x, "live(0)", x.live(0), 8);
        C.fails(x, "lived(0)", x.lived(0), 8);
        C.fails(x, "back()", x.back(), 8);
        C.due("feed on an empty tape", x.feed(0, 0, 0, 0, 0), 20);
        C.due("NONE", HairProvince.NONE, -1);
    }

    /** Promises 2 to 4: calls without a STATUS leave it, a call that fails leaves the FRACTION. */
    private static void statusAndFraction() {
        HairProvince x = C.land("odds 4;word a;person b keeps a;");
        C.gives(x, "safe(0, 2)", x.safe(0, 2));
        C.fraction(x, "safe(0, 2)", 9, 16);
        C.fails(x, "safe(0, 3)", x.safe(0, 3), 5);
        C.fraction(x, "safe(0, 3)", 9, 16);
        C.fails(x, "many(-1)", x.many(-1), 5);
        x.feed(0, 0, 0, 0, 0);
        x.fault(0);
        x.fault(7);
        x.top();
        x.bottom();
        C.due("status() behind calls without one", x.status(), 5);
        C.due("status() again", x.status(), 5);
        x.many(0);
        C.due("status() behind many(0)", x.status(), 0);
    }

    private static void making() {
        HairProvince x = new HairProvince();
        C.fails(x, "tray(-1, 0, 1)", x.tray(-1, 0, 1), 1);
        C.fails(x, "tray(4, 0, 1)", x.tray(4, 0, 1), 1);
        C.fails(x, "tray(0, -1, 1)", x.tray(0, -1, 1), 1);
        C.fails(x, "tray(0, 4, 1)", x.tray(0, 4, 1), 1);
        C.fails(x, "tray(0, 4, 61)", x.tray(0, 4, 61), 1);
        C.fails(x, "tray(0, 0, 61)", x.tray(0, 0, 61), 5);
        C.fails(x, "tray(0, 0, -1)", x.tray(0, 0, -1), 6);
        C.fails(x, "tray of the least int", x.tray(0, 0, Integer.MIN_VALUE), 6);
        C.fails(x, "tray of the greatest int", x.tray(0, 0, Integer.MAX_VALUE), 5);
        C.fails(x, "read(0, 0)", x.read(0, 0), 3);
        C.gives(x, "tray(3, 3, 60)", x.tray(3, 3, 60));
        for (int i = 0; i < 60; i++) {
            C.gives(x, "read(3, " + i + ")", x.read(3, i), 0);
            x.write(3, i, i + 1);
        }
        C.fails(x, "tray(3, 3, 61)", x.tray(3, 3, 61), 5);
        C.gives(x, "read(3, 59) as it was", x.read(3, 59), 60);
        C.gives(x, "tray(3, 0, 0)", x.tray(3, 0, 0));
        C.fails(x, "read(3, 0) of none", x.read(3, 0), 4);
        C.gives(x, "tray(3, 2, 60) again", x.tray(3, 2, 60));
        for (int i = 0; i < 60; i++) {
            C.gives(x, "read(3, " + i + ") made again", x.read(3, i), 0);
        }
    }

    private static void writing() {
        HairProvince x = new HairProvince();
        long[] written = {127, 128, 255, 256, 300, -129, 32767, 32768, -32769, 1L << 31, (1L << 31) - 1,
            Long.MIN_VALUE, Long.MAX_VALUE, -1};
        for (int sort = 0; sort < 4; sort++) {
            x.tray(sort, sort, 2);
            for (long v : written) {
                long due = sort == 0 ? (byte) v : sort == 1 ? (short) v : sort == 2 ? (int) v : v;
                C.gives(x, "write(" + sort + ", 1, " + v + ")", x.write(sort, 1, v));
                C.gives(x, "read(" + sort + ", 1)", x.read(sort, 1), due);
                C.gives(x, "read(" + sort + ", 0)", x.read(sort, 0), 0);
            }
        }
        C.fails(x, "write(0, 2, 5)", x.write(0, 2, 5), 4);
        C.fails(x, "write(0, -1, 5)", x.write(0, -1, 5), 4);
        C.fails(x, "write(4, 0, 5)", x.write(4, 0, 5), 1);
        C.fails(x, "write(-1, 0, 5)", x.write(-1, 0, 5), 1);
        C.fails(x, "read(0, 2)", x.read(0, 2), 4);
        C.fails(x, "read(0, -1)", x.read(0, -1), 4);
        C.fails(x, "read(4, 0)", x.read(4, 0), 1);
        C.fails(x, "read(-1, 0)", x.read(-1, 0), 1);
        HairProvince y = new HairProvince();
        C.fails(y, "write of one that is MISSING", y.write(0, 9, 5), 3);
        C.fails(y, "read of one that is MISSING", y.read(0, -9), 3);
    }

    private static void row(HairProvince x, int tray, long... due) {
        for (int i = 0; i < due.length; i++) {
            C.gives(x, "read(" + tray + ", " + i + ")", x.read(tray, i), due[i]);
        }
    }

    private static void pouring() {
        HairProvince x = new HairProvince();
        Check.fill(x, 0, 1, 2, 3, 4, 5);
        Check.fill(x, 1, 9, 9, 9);
        C.gives(x, "pour(0, 1, 1, 0, 2)", x.pour(0, 1, 1, 0, 2));
        row(x, 1, 2, 3, 9);
        row(x, 0, 1, 2, 3, 4, 5);
        C.gives(x, "pour(0, 0, 0, 1, 4)", x.pour(0, 0, 0, 1, 4));
        row(x, 0, 1, 1, 2, 3, 4);
        C.gives(x, "pour(0, 2, 0, 0, 3)", x.pour(0, 2, 0, 0, 3));
        row(x, 0, 2, 3, 4, 3, 4);
        C.gives(x, "pour(0, 5, 1, 3, 0)", x.pour(0, 5, 1, 3, 0));
        C.fails(x, "pour(0, 6, 1, 3, 0)", x.pour(0, 6, 1, 3, 0), 4);
        C.fails(x, "pour(0, 0, 1, 4, 0)", x.pour(0, 0, 1, 4, 0), 4);
        C.fails(x, "pour(0, -1, 1, 0, 1)", x.pour(0, -1, 1, 0, 1), 4);
        C.fails(x, "pour(0, 0, 1, -1, 1)", x.pour(0, 0, 1, -1, 1), 4);
        C.fails(x, "pour(0, 3, 1, 0, 3)", x.pour(0, 3, 1, 0, 3), 4);
        C.fails(x, "pour(0, 0, 1, 1, 3)", x.pour(0, 0, 1, 1, 3), 4);
        C.fails(x, "pour(0, 2, 1, 0, all)", x.pour(0, 2, 1, 0, Integer.MAX_VALUE), 4);
        C.fails(x, "pour(0, 2, 1, 0, -1)", x.pour(0, 2, 1, 0, -1), 6);
        C.fails(x, "pour(0, -2, 1, 0, -1)", x.pour(0, -2, 1, 0, -1), 6);
        x.tray(2, 2, 5);
        C.fails(x, "pour(0, 9, 2, 0, -1)", x.pour(0, 9, 2, 0, -1), 11);
        C.fails(x, "pour(0, 9, 3, 0, -1)", x.pour(0, 9, 3, 0, -1), 3);
        C.fails(x, "pour(3, 9, 0, 0, -1)", x.pour(3, 9, 0, 0, -1), 3);
        C.fails(x, "pour(3, 9, 4, 0, -1)", x.pour(3, 9, 4, 0, -1), 1);
        C.fails(x, "pour(-1, 9, 3, 0, -1)", x.pour(-1, 9, 3, 0, -1), 1);
        row(x, 1, 2, 3, 9);
        row(x, 0, 2, 3, 4, 3, 4);
    }
}
