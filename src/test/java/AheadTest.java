/** Promises 30 to 37. */
public final class AheadTest {
    private static final Check C = new Check("AheadTest");

    public static void main(String[] args) {
        hairAndKnown();
        out();
        learns();
        wild();
        dines();
        quiet();
        C.end();
    }

    private static void hairAndKnown() {
        HairProvince x = C.land(Check.LAND);
        int[] ann = {0, 3, 6, 3, 4, 5, 6, 7, 8, 0, 0};
        int[] bob = {0, 0, 4, 5, 5, 5, 5, 5, 5, 7, 7};
        for (int d = 0; d <= 10; d++) {
            C.gives(x, "hairIn(0, " + d + ")", x.hairIn(0, d), ann[d]);
            C.gives(x, "knownIn(1, " + d + ")", x.knownIn(1, d), bob[d]);
        }
        C.gives(x, "hairIn(3, 50)", x.hairIn(3, 50), 50);
        C.gives(x, "hairIn(3, 200), said on DAY 55", x.hairIn(3, 200), 0);
        C.gives(x, "knownIn(2, 200)", x.knownIn(2, 200), 12);
        C.gives(x, "many(6), all as it was", x.many(6), 0);
        C.gives(x, "many(8), all as it was", x.many(8), 0);
        C.gives(x, "many(10), all as it was", x.many(10), 0);
        for (int bad : new int[] {-1, 201}) {
            C.fails(x, "hairIn(0, " + bad + ")", x.hairIn(0, bad), 5);
            C.fails(x, "knownIn(0, " + bad + ")", x.knownIn(0, bad), 5);
            C.fails(x, "hairIn(4, " + bad + ")", x.hairIn(4, bad), 2);
            C.fails(x, "knownIn(4, " + bad + ")", x.knownIn(4, bad), 2);
        }
        C.fails(x, "hairIn(-1, 0)", x.hairIn(-1, 0), 2);
        C.fails(x, "knownIn(-1, 0)", x.knownIn(-1, 0), 2);
        // DAYS ahead are counted from now: on DAY 1 the DINNER of DAY 3 is in 2.
        x.day(1);
        C.gives(x, "hairIn(0, 2) on DAY 1", x.hairIn(0, 2), 3);
        // DAY 9,999 does not matter.
        HairProvince y = C.land("word a;person p temper 0;person q keeps a;dinner p q every 8;");
        for (int i = 0; i < 101; i++) {
            y.day(99);
        }
        y.train(1, 0);
        C.gives(y, "knownIn(0, 0)", y.knownIn(0, 0), 0);
        C.gives(y, "knownIn(0, 1): DAY 10,000", y.knownIn(0, 1), 1);
        C.gives(y, "dinesIn(0)", y.dinesIn(0), 1);
        C.gives(y, "out(0)", y.out(0), 1);
    }

    private static void out() {
        HairProvince x = C.land(Check.LAND);
        C.gives(x, "out(0)", x.out(0), 3);
        C.gives(x, "out(1)", x.out(1), 9);
        C.gives(x, "out(2)", x.out(2), 2);
        C.gives(x, "out(3)", x.out(3), 55);
        C.fails(x, "out(4)", x.out(4), 2);
        C.fails(x, "out(-1)", x.out(-1), 2);
        x.day(3);
        C.fails(x, "out(0): nobody KEEPS it", x.out(0), 8);
        C.gives(x, "out(1) on DAY 3", x.out(1), 6);
        HairProvince y = C.land("word a grows 2 grey 99;word b grows 2 grey 99;person p temper 395 keeps a b;person q;"
            + "dinner p q every 25;");
        C.gives(y, "out(0)", y.out(0), 100);
        C.fails(y, "out(1)", y.out(1), 8);
        eightDinners();
        HairProvince z = C.land("word a;person p temper 0;person q temper 0;person r temper 0 keeps a;"
            + "dinner r p every 29;dinner r q every 29;");
        z.cut(2, 0);
        C.gives(z, "out(0)", z.out(0), 29);
        z.learn(0, 0);
        C.gives(z, "out(0) to the other", z.out(0), 29);
    }

    /** The eighth WORD is said on DAY 224: in 201 DAYS, then in 200. */
    private static void eightDinners() {
        HairProvince x = C.land("word a;word b;word c;word d;word e;word f;word g;word h;"
            + "person p temper 0 keeps a b c d e f g h;person q;dinner p q every 28;");
        x.day(23);
        C.gives(x, "out(6)", x.out(6), 7 * 28 - 23);
        C.fails(x, "out(7)", x.out(7), 8);
        C.fails(x, "learnsIn(1, 7)", x.learnsIn(1, 7), 8);
        C.gives(x, "knownIn(1, 200)", x.knownIn(1, 200), 127);
        x.day(1);
        C.gives(x, "out(7) on the DAY behind", x.out(7), 200);
        C.gives(x, "learnsIn(1, 7) on the DAY behind", x.learnsIn(1, 7), 200);
        C.gives(x, "knownIn(1, 200) on the DAY behind", x.knownIn(1, 200), 255);
    }

    private static void learns() {
        HairProvince x = C.land(Check.LAND);
        C.gives(x, "learnsIn(0, 0)", x.learnsIn(0, 0), 0);
        C.gives(x, "learnsIn(1, 0)", x.learnsIn(1, 0), 3);
        C.gives(x, "learnsIn(1, 2)", x.learnsIn(1, 2), 2);
        C.gives(x, "learnsIn(2, 3)", x.learnsIn(2, 3), 55);
        C.fails(x, "learnsIn(0, 2)", x.learnsIn(0, 2), 8);
        C.fails(x, "learnsIn(4, 0)", x.learnsIn(4, 0), 2);
        C.fails(x, "learnsIn(0, 4)", x.learnsIn(0, 4), 2);
        C.fails(x, "learnsIn(-1, 0)", x.learnsIn(-1, 0), 2);
        C.fails(x, "learnsIn(0, -1)", x.learnsIn(0, -1), 2);
        HairProvince y = C.land("word a grows 1 grey 99;person p temper 98 keeps a;person q;dinner p q every 25;");
        C.gives(y, "learnsIn(1, 0)", y.learnsIn(1, 0), 100);
        y.train(0, 99);
        C.fails(y, "learnsIn(1, 0)", y.learnsIn(1, 0), 8);
    }

    private static void wild() {
        HairProvince x = C.land(Check.LAND);
        // On DAY 3 ann is 9 long, but behind the DINNER 3; on DAY 7 she is 7 long.
        C.gives(x, "wildIn(0)", x.wildIn(0), 7);
        C.fails(x, "wildIn(1)", x.wildIn(1), 8);
        C.fails(x, "wildIn(2): 3 on DAY 1, said on DAY 2", x.wildIn(2), 8);
        C.gives(x, "wildIn(3)", x.wildIn(3), 51);
        C.fails(x, "wildIn(4)", x.wildIn(4), 2);
        C.fails(x, "wildIn(-1)", x.wildIn(-1), 2);
        x.day(1);
        x.train(0, 2);
        C.gives(x, "wildIn(0), now", x.wildIn(0), 0);
        HairProvince y = C.land("heard 99;word a grey 99;word b grey 99;person p temper 197 keeps a b;person q barber;");
        C.gives(y, "wildIn(0)", y.wildIn(0), 99);
        y.train(0, 198);
        C.fails(y, "wildIn(0), never", y.wildIn(0), 8);
    }

    private static void dines() {
        HairProvince x = C.land(Check.LAND + "person eve;");
        int[] ann = {3, 2, 1, 3, 2, 1, 3};
        int[] cid = {2, 1, 2, 1, 1, 1, 2};
        int[] dot = {5, 4, 3, 2, 1, 5, 4};
        for (int d = 0; d < 7; d++) {
            C.gives(x, "dinesIn(0) on DAY " + d, x.dinesIn(0), ann[d]);
            C.gives(x, "dinesIn(2) on DAY " + d, x.dinesIn(2), cid[d]);
            C.gives(x, "dinesIn(3) on DAY " + d, x.dinesIn(3), dot[d]);
            x.day(1);
        }
        C.fails(x, "dinesIn(4)", x.dinesIn(4), 8);
        C.fails(x, "dinesIn(5)", x.dinesIn(5), 2);
        C.fails(x, "dinesIn(-1)", x.dinesIn(-1), 2);
        HairProvince y = C.land("person p;person q;dinner p q every 30;");
        C.gives(y, "dinesIn(1)", y.dinesIn(1), 30);
    }

    private static void quiet() {
        HairProvince x = C.land(Check.LAND);
        int[][] due = {{0, 3, 0}, {1, 3, 3}, {2, 3, 6}, {3, 1, 6}, {4, 2, 4}, {5, 2, 5}, {6, 2, 6}, {7, 0, 0}, {200, 0, 0}};
        for (int[] row : due) {
            C.gives(x, "quiet(0, " + row[0] + ")", x.quiet(0, row[0]), row[1]);
            C.gives(x, "quietHair(0, " + row[0] + ")", x.quietHair(0, row[0]), row[2]);
        }
        C.gives(x, "quiet(1, 9)", x.quiet(1, 9), 0);
        C.gives(x, "quietHair(1, 9)", x.quietHair(1, 9), 0);
        C.gives(x, "many(10), all as it was", x.many(10), 0);
        C.gives(x, "person(0, 3), all as it was", x.person(0, 3), 3);
        // Three of four can stay; of several the longest, of these the least as a number.
        HairProvince y = C.land("word a grows 2;word b grows 3;word c grows 3;word d grows 4;"
            + "person p temper 9 keeps a b c d;");
        C.gives(y, "quiet(0, 1): a, b, d make 9, as a, c, d do", y.quiet(0, 1), 11);
        C.gives(y, "quietHair(0, 1)", y.quietHair(0, 1), 9);
        C.gives(y, "quiet(0, 2): one alone, d", y.quiet(0, 2), 8);
        C.gives(y, "quietHair(0, 2)", y.quietHair(0, 2), 8);
        C.gives(y, "quiet(0, 3): b or c", y.quiet(0, 3), 2);
        y.train(0, 8);
        C.gives(y, "quiet(0, 1): a, b, c make 8", y.quiet(0, 1), 7);
        // Lengths and DAYS that are there already count.
        y.day(2);
        y.train(0, 15);
        C.gives(y, "quiet(0, 0) of 4, 6, 6, 8: b, d make 14", y.quiet(0, 0), 10);
        C.gives(y, "quietHair(0, 0)", y.quietHair(0, 0), 14);
        y.train(0, 999);
        C.gives(y, "quietHair(0, 200): grey in 28 DAYS more", y.quietHair(0, 200), 12 * 30);
        for (int bad : new int[] {-1, 201}) {
            C.fails(x, "quiet(0, " + bad + ")", x.quiet(0, bad), 5);
            C.fails(x, "quietHair(0, " + bad + ")", x.quietHair(0, bad), 5);
            C.fails(x, "quiet(4, " + bad + ")", x.quiet(4, bad), 2);
            C.fails(x, "quietHair(4, " + bad + ")", x.quietHair(4, bad), 2);
        }
        C.fails(x, "quiet(-1, 0)", x.quiet(-1, 0), 2);
        C.fails(x, "quietHair(-1, 0)", x.quietHair(-1, 0), 2);
    }
}
