/** Promises 38 to 42. */
public final class UnsaidTest {
    private static final Check C = new Check("UnsaidTest");

    public static void main(String[] args) {
        fitting();
        asking();
        statuses();
        lengths();
        daysFor();
        C.end();
    }

    private static void fitting() {
        // plot 2 a DAY to 5, love 1 to 30, debt 3 to 4, name 1 to 99.
        HairProvince x = C.land(Check.LAND);
        Check.fill(x, 0, 3, 9, 5, 15);
        C.gives(x, "unsaid(0, 0)", x.unsaid(0, 0), 16);
        C.gives(x, "sure(0, 0)", x.sure(0, 0), 0);
        // In 3 DAYS: 6, 3, 9, 3: plot love, debt, plot name make 9.
        C.gives(x, "unsaid(0, 1)", x.unsaid(0, 1), 3);
        C.gives(x, "sure(0, 1)", x.sure(0, 1), 0);
        // In 5 DAYS: 10, 5, 12, 5: without debt.
        C.gives(x, "unsaid(0, 2)", x.unsaid(0, 2), 2);
        C.gives(x, "sure(0, 2)", x.sure(0, 2), 1);
        Check.fill(x, 0, 0, 1);
        C.gives(x, "unsaid(0, 1), 1 long at once", x.unsaid(0, 1), 0);
        C.fails(x, "sure(0, 1) of no set", x.sure(0, 1), 8);
        C.fails(x, "ask(0, 1) of no set", x.ask(0, 1), 8);
        Check.fill(x, 0, 999, 151, 0, 0);
        C.gives(x, "unsaid(0, 2): all of them", x.unsaid(0, 2), 1);
        C.gives(x, "sure(0, 2)", x.sure(0, 2), 15);
        C.fails(x, "ask(0, 2) of one set", x.ask(0, 2), 8);
        Check.fill(x, 0, 3, Long.MAX_VALUE);
        C.gives(x, "unsaid(0, 1), longer than any", x.unsaid(0, 1), 0);
        Check.fill(x, 0, 3, (1L << 32) + 9);
        C.gives(x, "unsaid(0, 1), 9 but for high bits", x.unsaid(0, 1), 0);
        // All WORDS there are count, who KEEPS them does not.
        x.say(0, 0, 1);
        Check.fill(x, 0, 1, 7);
        C.gives(x, "unsaid(0, 1)", x.unsaid(0, 1), 1);
        C.gives(x, "sure(0, 1)", x.sure(0, 1), 15);
        HairProvince y = new HairProvince();
        y.tray(0, 0, 2);
        C.gives(y, "unsaid(0, 1) without WORDS", y.unsaid(0, 1), 1);
        y.write(0, 1, 1);
        C.gives(y, "unsaid(0, 1) without WORDS", y.unsaid(0, 1), 0);
        HairProvince z = C.land("word a;word b;word c;word d;word e;word f;word g;word h;");
        z.tray(0, 0, 2);
        C.gives(z, "unsaid(0, 0) of eight", z.unsaid(0, 0), 256);
        z.write(0, 0, 1);
        z.write(0, 1, 4);
        C.gives(z, "unsaid(0, 1), four of eight", z.unsaid(0, 1), 70);
    }

    private static void asking() {
        HairProvince x = C.land(Check.LAND);
        Check.fill(x, 0, 3, 9);
        // plot love, debt, plot name: 2 numbers from 4 DAYS on (love, name alike), 3 from DAY 31 on.
        C.gives(x, "ask(0, 1)", x.ask(0, 1), 31);
        HairProvince y = C.land("word a grows 2 grey 1;word b grows 1 grey 2;");
        y.tray(0, 0, 2);
        // Sets: 0, a, b, both: on DAY 1 0 2 1 3, all unlike.
        C.gives(y, "ask(0, 0)", y.ask(0, 0), 1);
        HairProvince z = C.land("word a grows 2 grey 99;word b grows 2 grey 98;");
        z.tray(0, 0, 2);
        C.gives(z, "ask(0, 0), on the last DAY", z.ask(0, 0), 99);
        HairProvince u = C.land("word a;word b;");
        u.tray(0, 0, 2);
        C.gives(u, "ask(0, 0), never more than three", u.ask(0, 0), 1);
        u.write(0, 0, 5);
        u.write(0, 1, 5);
        C.gives(u, "ask(0, 1), a or b, always as long", u.ask(0, 1), 1);
    }

    private static void statuses() {
        HairProvince x = C.land(Check.LAND);
        for (int tray : new int[] {-1, 4}) {
            C.fails(x, "unsaid(" + tray + ", 99)", x.unsaid(tray, 99), 1);
            C.fails(x, "sure(" + tray + ", 99)", x.sure(tray, 99), 1);
            C.fails(x, "ask(" + tray + ", 99)", x.ask(tray, 99), 1);
        }
        C.fails(x, "unsaid(0, 99)", x.unsaid(0, 99), 3);
        C.fails(x, "sure(0, 99)", x.sure(0, 99), 3);
        C.fails(x, "ask(0, 99)", x.ask(0, 99), 3);
        Check.fill(x, 0, 1, 0, 1);
        for (int n : new int[] {2, 31, Integer.MAX_VALUE}) {
            C.fails(x, "unsaid(0, " + n + ")", x.unsaid(0, n), 4);
            C.fails(x, "sure(0, " + n + ")", x.sure(0, n), 4);
            C.fails(x, "ask(0, " + n + ")", x.ask(0, n), 4);
        }
        x.tray(1, 3, 60);
        for (int n : new int[] {-1, 21, 30, Integer.MIN_VALUE}) {
            C.fails(x, "unsaid(1, " + n + ")", x.unsaid(1, n), 5);
            C.fails(x, "sure(1, " + n + ")", x.sure(1, n), 5);
            C.fails(x, "ask(1, " + n + ")", x.ask(1, n), 5);
        }
        C.gives(x, "unsaid(1, 20)", x.unsaid(1, 20), 16);
        long[][] bad = {{-1, 0}, {1000, 0}, {0, -1}, {(1L << 32) + 1, 0}};
        for (long[] two : bad) {
            x.write(1, 38, two[0]);
            x.write(1, 39, two[1]);
            C.fails(x, "unsaid(1, 20) of bad twos", x.unsaid(1, 20), 5);
            C.fails(x, "sure(1, 20) of bad twos", x.sure(1, 20), 5);
            C.fails(x, "ask(1, 20) of bad twos", x.ask(1, 20), 5);
            C.gives(x, "unsaid(1, 19)", x.unsaid(1, 19), 16);
        }
        // A number that can't be comes ahead of no set.
        x.write(1, 1, 5);
        C.fails(x, "sure(1, 20)", x.sure(1, 20), 5);
    }

    private static void lengths() {
        HairProvince x = C.land(Check.LAND);
        C.gives(x, "lengthOf(0, 9)", x.lengthOf(0, 9), 0);
        C.gives(x, "lengthOf(15, 0)", x.lengthOf(15, 0), 0);
        C.gives(x, "lengthOf(15, 1)", x.lengthOf(15, 1), 7);
        C.gives(x, "lengthOf(1, 5)", x.lengthOf(1, 5), 10);
        C.gives(x, "lengthOf(1, 6)", x.lengthOf(1, 6), 10);
        C.gives(x, "lengthOf(10, 50)", x.lengthOf(10, 50), 80);
        C.gives(x, "lengthOf(15, 999)", x.lengthOf(15, 999), 10 + 30 + 12 + 99);
        C.fails(x, "lengthOf(16, 1)", x.lengthOf(16, 1), 5);
        C.fails(x, "lengthOf(-1, 1)", x.lengthOf(-1, 1), 5);
        C.fails(x, "lengthOf(1, -1)", x.lengthOf(1, -1), 5);
        C.fails(x, "lengthOf(1, 1000)", x.lengthOf(1, 1000), 5);
    }

    private static void daysFor() {
        HairProvince x = C.land(Check.LAND);
        C.gives(x, "daysFor(0, 0)", x.daysFor(0, 0), 0);
        C.gives(x, "daysFor(15, 0)", x.daysFor(15, 0), 0);
        C.gives(x, "daysFor(15, 7)", x.daysFor(15, 7), 1);
        C.gives(x, "daysFor(15, 8)", x.daysFor(15, 8), 2);
        C.gives(x, "daysFor(1, 10)", x.daysFor(1, 10), 5);
        C.fails(x, "daysFor(1, 11)", x.daysFor(1, 11), 8);
        C.gives(x, "daysFor(8, 99)", x.daysFor(8, 99), 99);
        C.fails(x, "daysFor(8, 100)", x.daysFor(8, 100), 8);
        C.fails(x, "daysFor(15, 9999)", x.daysFor(15, 9999), 8);
        C.fails(x, "daysFor(0, 1)", x.daysFor(0, 1), 8);
        C.fails(x, "daysFor(16, 1)", x.daysFor(16, 1), 5);
        C.fails(x, "daysFor(-1, 1)", x.daysFor(-1, 1), 5);
        C.fails(x, "daysFor(1, -1)", x.daysFor(1, -1), 5);
        C.fails(x, "daysFor(1, 10000)", x.daysFor(1, 10000), 5);
    }
}
