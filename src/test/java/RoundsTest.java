/** Promises 43 to 48. */
public final class RoundsTest {
    private static final Check C = new Check("RoundsTest");

    public static void main(String[] args) {
        rounds();
        manyBarbers();
        plaits();
        plaitStatuses();
        tellers();
        rumours();
        C.end();
    }

    private static void rounds() {
        // ann KEEPS plot love, cid debt, dot name; HALVES: plot debt, love name.
        HairProvince x = C.land(Check.LAND);
        C.gives(x, "round(0)", x.round(0), 0);
        C.gives(x, "round(1)", x.round(1), 1);
        C.gives(x, "round(2), KEEPS nothing", x.round(2), 1);
        C.gives(x, "round(5)", x.round(5), 2);
        C.gives(x, "round(12): debt, name", x.round(12), 1);
        C.gives(x, "round(15)", x.round(15), 2);
        C.gives(x, "oneRound()", x.oneRound(), 14);
        C.fails(x, "round(16)", x.round(16), 5);
        C.fails(x, "round(-1)", x.round(-1), 5);
        x.learn(1, 0);
        C.gives(x, "round(15): what is KNOWN alone does not count", x.round(15), 2);
        x.keep(1, 0);
        C.gives(x, "round(6): plot, debt", x.round(6), 2);
        C.gives(x, "oneRound(): ann bob, or two with dot", x.oneRound(), 3);
        x.learn(1, 2);
        x.keep(1, 2);
        C.fails(x, "round(2): both HALVES", x.round(2), 8);
        C.fails(x, "round(15): both HALVES", x.round(15), 8);
        C.gives(x, "round(13) without bob", x.round(13), 2);
        C.gives(x, "oneRound() without bob", x.oneRound(), 12);
        C.fails(x, "round(31): no such PERSON comes first", x.round(31), 5);
    }

    private static void manyBarbers() {
        // Six that each hold halves with each other: words a..d all halves of one another.
        HairProvince x = C.land("word a;word b;word c;word d;person p keeps a;person q keeps b;person r keeps c;"
            + "person s keeps d;person t keeps a;person u;halves a b;halves a c;halves a d;halves b c;halves b d;"
            + "halves c d;");
        C.gives(x, "round(63)", x.round(63), 4);
        C.gives(x, "round(49): a, a and nothing", x.round(49), 1);
        C.gives(x, "oneRound(): p, t, u", x.oneRound(), 49);
        // First come, first served would need three here: a path p - q - r - s told in another order.
        HairProvince y = C.land("word a;word b;word c;word d;word e;word f;person p keeps a;person s keeps b;"
            + "person q keeps c d;person r keeps e f;halves a c;halves d e;halves f b;");
        C.gives(y, "round(15) of a path", y.round(15), 2);
        C.gives(y, "oneRound() of a path, the least as a number", y.oneRound(), 3);
        HairProvince z = new HairProvince();
        C.gives(z, "oneRound() of nobody", z.oneRound(), 0);
        C.gives(z, "round(0) of nobody", z.round(0), 0);
        C.fails(z, "round(1) of nobody", z.round(1), 5);
        HairProvince u = C.land("word a;word b;person p keeps a b;halves a b;");
        C.gives(u, "oneRound(), all KEEP both HALVES", u.oneRound(), 0);
    }

    private static void order(HairProvince x, int words, int tray, int n, int... due) {
        for (int k = 0; k < due.length; k++) {
            C.gives(x, "plaitAt(" + words + ", " + tray + ", " + n + ", " + k + ")", x.plaitAt(words, tray, n, k), due[k]);
        }
        C.fails(x, "plaitAt of place " + due.length, x.plaitAt(words, tray, n, due.length), 8);
        C.fails(x, "plaitAt of place -1", x.plaitAt(words, tray, n, -1), 8);
    }

    private static void plaits() {
        HairProvince x = C.land(Check.LAND);
        Check.fill(x, 0, 3, 0, 2, 1, 1, 0);
        C.gives(x, "plaits(15, 0, 0)", x.plaits(15, 0, 0), 24);
        order(x, 15, 0, 0, 0, 1, 2, 3);
        C.gives(x, "plaits(15, 0, 1)", x.plaits(15, 0, 1), 12);
        order(x, 15, 0, 1, 1, 2, 3, 0);
        C.gives(x, "plaits(15, 0, 2)", x.plaits(15, 0, 2), 6);
        order(x, 15, 0, 2, 2, 1, 3, 0);
        C.gives(x, "plaits(15, 0, 3)", x.plaits(15, 0, 3), 3);
        order(x, 15, 0, 3, 2, 1, 3, 0);
        C.gives(x, "plaits(11, 0, 3), without debt", x.plaits(11, 0, 3), 2);
        order(x, 11, 0, 3, 1, 3, 0);
        C.gives(x, "plaits(0, 0, 3)", x.plaits(0, 0, 3), 1);
        order(x, 0, 0, 3);
        Check.fill(x, 1, 0, 1, 1, 0, 2, 2);
        C.gives(x, "plaits(15, 1, 2), in a ring", x.plaits(15, 1, 2), 0);
        C.fails(x, "plaitAt(15, 1, 2, 0), in a ring", x.plaitAt(15, 1, 2, 0), 8);
        C.fails(x, "plaitAt(11, 1, 2, 0), in a ring", x.plaitAt(11, 1, 2, 0), 8);
        C.gives(x, "plaits(14, 1, 2), the ring is not in it", x.plaits(14, 1, 2), 6);
        C.gives(x, "plaits(4, 1, 3), ahead of itself", x.plaits(4, 1, 3), 0);
        C.gives(x, "plaits(8, 1, 3), what is not in it", x.plaits(8, 1, 3), 1);
        HairProvince y = C.land("word a;word b;word c;word d;word e;word f;word g;word h;");
        y.tray(3, 0, 2);
        C.gives(y, "plaits(255, 3, 0)", y.plaits(255, 3, 0), 40320);
        y.write(3, 0, 7);
        C.gives(y, "plaits(255, 3, 1)", y.plaits(255, 3, 1), 20160);
        order(y, 255, 3, 1, 1, 2, 3, 4, 5, 6, 7, 0);
    }

    private static void plaitStatuses() {
        HairProvince x = C.land(Check.LAND);
        for (int tray : new int[] {-1, 4}) {
            C.fails(x, "plaits(99, " + tray + ", 99)", x.plaits(99, tray, 99), 1);
            C.fails(x, "plaitAt(99, " + tray + ", 99, 9)", x.plaitAt(99, tray, 99, 9), 1);
        }
        C.fails(x, "plaits(99, 0, 99)", x.plaits(99, 0, 99), 3);
        C.fails(x, "plaitAt(99, 0, 99, 9)", x.plaitAt(99, 0, 99, 9), 3);
        Check.fill(x, 0, 0, 1, 2);
        C.fails(x, "plaits(99, 0, 2)", x.plaits(99, 0, 2), 4);
        C.fails(x, "plaitAt(99, 0, 2, 9)", x.plaitAt(99, 0, 2, 9), 4);
        for (int set : new int[] {-1, 16}) {
            C.fails(x, "plaits(" + set + ", 0, 1)", x.plaits(set, 0, 1), 5);
            C.fails(x, "plaitAt(" + set + ", 0, 1, 9)", x.plaitAt(set, 0, 1, 9), 5);
        }
        x.tray(1, 3, 60);
        for (int n : new int[] {-1, 21}) {
            C.fails(x, "plaits(1, 1, " + n + ")", x.plaits(1, 1, n), 5);
            C.fails(x, "plaitAt(1, 1, " + n + ", 9)", x.plaitAt(1, 1, n, 9), 5);
        }
        C.gives(x, "plaits(14, 1, 20)", x.plaits(14, 1, 20), 6);
        for (long bad : new long[] {-1, 4, 1L << 32}) {
            for (int place = 38; place < 40; place++) {
                x.write(1, place, bad);
                C.fails(x, "plaits(14, 1, 20) of a bad WORD", x.plaits(14, 1, 20), 5);
                C.fails(x, "plaitAt(14, 1, 20, 9) of a bad WORD", x.plaitAt(14, 1, 20, 9), 5);
                C.gives(x, "plaits(14, 1, 19)", x.plaits(14, 1, 19), 6);
                x.write(1, place, 0);
            }
        }
    }

    private static void tellers() {
        HairProvince x = C.land(Check.LAND + "person eve keeps plot;dinner bob ann every 7;");
        C.gives(x, "tellers(0, 1)", x.tellers(0, 1), 1);
        C.gives(x, "tellers(0, 0), he KNOWS it", x.tellers(0, 0), 0);
        C.gives(x, "tellers(2, 1)", x.tellers(2, 1), 4);
        C.gives(x, "tellers(2, 3)", x.tellers(2, 3), 4);
        C.gives(x, "tellers(2, 0)", x.tellers(2, 0), 0);
        x.learn(2, 0);
        x.learn(1, 0);
        C.gives(x, "tellers(0, 1)", x.tellers(0, 1), 5);
        C.gives(x, "tellers(0, 2)", x.tellers(0, 2), 2);
        C.gives(x, "tellers(0, 4)", x.tellers(0, 4), 0);
        C.fails(x, "tellers(4, 0)", x.tellers(4, 0), 2);
        C.fails(x, "tellers(0, 5)", x.tellers(0, 5), 2);
        C.fails(x, "tellers(-1, 0)", x.tellers(-1, 0), 2);
        C.fails(x, "tellers(0, -1)", x.tellers(0, -1), 2);
    }

    private static void rumours() {
        HairProvince x = C.land(Check.LAND + "person eve;word none;");
        C.gives(x, "rumour(0, 0)", x.rumour(0, 0), 0);
        C.gives(x, "rumour(0, 1)", x.rumour(0, 1), 1);
        C.gives(x, "rumour(0, 2)", x.rumour(0, 2), 2);
        C.gives(x, "rumour(0, 3)", x.rumour(0, 3), 3);
        C.fails(x, "rumour(0, 4)", x.rumour(0, 4), 8);
        C.fails(x, "rumour(4, 0), nobody KNOWS it", x.rumour(4, 0), 8);
        C.fails(x, "rumour(5, 0)", x.rumour(5, 0), 2);
        C.fails(x, "rumour(0, 5)", x.rumour(0, 5), 2);
        C.fails(x, "rumour(-1, 0)", x.rumour(-1, 0), 2);
        C.fails(x, "rumour(0, -1)", x.rumour(0, -1), 2);
        x.invite(3, 0, 30);
        C.gives(x, "rumour(0, 3) by a shorter way", x.rumour(0, 3), 1);
        HairProvince y = C.land("word a;person p keeps a;person q;person r;person s;person t;person u;"
            + "dinner u t every 1;dinner t s every 1;dinner s r every 1;dinner r q every 1;dinner q p every 1;");
        C.gives(y, "rumour(0, 5), the longest way", y.rumour(0, 5), 5);
    }
}
