/** Promises 9 to 19, but for FAULTS, which FaultsTest has. */
public final class TextsTest {
    private static final Check C = new Check("TextsTest");

    public static void main(String[] args) {
        feeding();
        taking();
        whatIsLeftOut();
        counts();
        words();
        people();
        strandsAndDinners();
        hair();
        C.end();
    }

    private static void feeding() {
        HairProvince x = new HairProvince();
        for (int i = 1; i <= 45; i++) {
            C.due("feed " + i, x.feed(0x20202020, 0x20202020, 0x20202020, 0x20202020, 0x20202020), 20 * i);
        }
        C.due("feed 46", x.feed(0, 0, 0, 0, 0), -1);
        C.due("feed 47", x.feed(0, 0, 0, 0, 0), -1);
        C.gives(x, "province(900) of blanks", x.province(900), 0);
        C.due("feed on the empty tape", x.feed(0, 0, 0, 0, 0), 20);
        // "od" "ds 1" "6;" : the highest byte of each int is first.
        HairProvince y = new HairProvince();
        y.feed(0x6f646473, 0x2031363b, 0x20202020, 0x20202020, 0x2020203b);
        C.gives(y, "province(19)", y.province(19), 0);
        C.gives(y, "many(5)", y.many(5), 16);
    }

    private static void taking() {
        HairProvince x = new HairProvince();
        C.gives(x, "province(0) of an empty tape", x.province(0), 0);
        C.due("fault(0)", x.fault(0), 0);
        C.due("fault(1)", x.fault(1), -1);
        C.due("fault(2)", x.fault(2), -1);
        C.due("fault(-1)", x.fault(-1), -1);
        C.fails(x, "province(1)", x.province(1), 5);
        C.fails(x, "province(-1)", x.province(-1), 5);
        int n = Check.feed(x, "person a;person b;");
        C.fails(x, "province(21)", x.province(21), 5);
        C.gives(x, "province(" + n + "), the tape being there still", x.province(n), 2);
        C.fails(x, "province(" + n + ") again, the tape being empty", x.province(n), 5);
        Check.feed(x, "person a;person b; !");
        C.gives(x, "province(9), the first bytes alone", x.province(9), 1);
        C.fails(x, "province(1) behind it", x.province(1), 5);
        C.due("fault(0) by STATUS 5", x.fault(0), 0);
        C.provinceFault(x, "person a;person a;", 3, 16);
        C.fails(x, "province(1) behind a FAULT", x.province(1), 5);
        C.due("fault(0) stays", x.fault(0), 3);
        C.due("fault(1) stays", x.fault(1), 16);
        C.gives(x, "many(1): the old one stays", x.many(1), 1);
    }

    /** What is there in place of the old one. */
    private static void whatIsLeftOut() {
        HairProvince x = C.land(Check.LAND);
        C.years(x, "day 3;cut ann by bob;", 2);
        x.live(0);
        C.gives(x, "many(6)", x.many(6), 3);
        C.gives(x, "many(9)", x.many(9), 1);
        C.provinceFault(x, "word a;;", 2, 7);
        C.gives(x, "many(6) behind a FAULT", x.many(6), 3);
        C.gives(x, "live(0) behind a FAULT", x.live(0), 2);
        // Neither what became of the old one nor what was tried on it is left.
        x.hairIn(0, 30);
        C.province(x, "heard3;odds 0;");
        C.gives(x, "many(4)", x.many(4), 3);
        C.gives(x, "many(5)", x.many(5), 0);
        for (int what : new int[] {0, 1, 2, 3, 6, 7, 8, 9, 10}) {
            C.gives(x, "many(" + what + ") anew", x.many(what), 0);
        }
        C.fails(x, "live(0): no YEARS", x.live(0), 8);
        C.province(x, "heard 99; odds 16;\nword a grows 9 grey 99;person p temper 999 barber keeps ;");
        C.gives(x, "many(4)", x.many(4), 99);
        C.gives(x, "many(5)", x.many(5), 16);
        C.gives(x, "word(0, 0)", x.word(0, 0), 9);
        C.gives(x, "word(0, 1)", x.word(0, 1), 99);
        C.gives(x, "word(0, 2)", x.word(0, 2), 0);
        C.gives(x, "person(0, 0)", x.person(0, 0), 999);
        C.gives(x, "person(0, 1)", x.person(0, 1), 1);
        C.gives(x, "person(0, 3)", x.person(0, 3), 0);
        C.province(x, "word a;word b;person p keeps a b;halves a b;");
        x.day(5);
        C.province(x, "word a;word b;person p keeps a;");
        C.gives(x, "word(0, 4) without HALVES", x.word(0, 4), 0);
        C.gives(x, "person(0, 3)", x.person(0, 3), 1);
        C.gives(x, "strand(0, 0, 0)", x.strand(0, 0, 0), 0);
        C.gives(x, "strand(0, 0, 1)", x.strand(0, 0, 1), 0);
        C.province(x, "");
        C.gives(x, "many(4) without", x.many(4), 3);
        C.gives(x, "many(5) without", x.many(5), 1);
    }

    private static void counts() {
        HairProvince x = C.land(Check.LAND);
        long[] due = {4, 4, 3, 2, 3, 4, 0, 10, 0, 0, 0};
        for (int what = 0; what <= 10; what++) {
            C.gives(x, "many(" + what + ")", x.many(what), due[what]);
        }
        C.fails(x, "many(-1)", x.many(-1), 5);
        C.fails(x, "many(11)", x.many(11), 5);
        x.day(3);
        // cid said debt on DAY 2, ann plot on DAY 3; love is 3 long, name 3.
        C.gives(x, "many(6)", x.many(6), 3);
        C.gives(x, "many(8)", x.many(8), 2);
        C.gives(x, "many(10)", x.many(10), 6);
        x.cut(0, 1);
        x.cut(0, 2);
        C.gives(x, "many(9)", x.many(9), 1);
        HairProvince y = C.land("word a;word b;halves a b;halves b a;halves a b;");
        C.gives(y, "many(3) of HALVES told again", y.many(3), 3);
        C.gives(y, "word(0, 4)", y.word(0, 4), 2);
    }

    private static void words() {
        HairProvince x = C.land(Check.LAND + "person eve keeps debt plot;");
        long[][] due = {{2, 5, 17, 17, 4}, {1, 30, 1, 1, 8}, {3, 4, 20, 20, 1}, {1, 99, 8, 8, 2}};
        for (int w = 0; w < 4; w++) {
            for (int what = 0; what < 5; what++) {
                C.gives(x, "word(" + w + ", " + what + ")", x.word(w, what), due[w][what]);
            }
        }
        x.say(4, 2, 1);
        C.gives(x, "word(2, 2) behind say", x.word(2, 2), 22);
        C.gives(x, "word(2, 3) behind say", x.word(2, 3), 4);
        C.fails(x, "word(4, 9)", x.word(4, 9), 2);
        C.fails(x, "word(-1, 0)", x.word(-1, 0), 2);
        C.fails(x, "word(0, 5)", x.word(0, 5), 5);
        C.fails(x, "word(0, -1)", x.word(0, -1), 5);
    }

    private static void people() {
        HairProvince x = C.land(Check.LAND);
        x.day(1);
        long[][] due = {{6, 0, 3, 3, 3}, {20, 1, 0, 0, 0}, {3, 0, 4, 4, 3}, {50, 1, 8, 8, 1}};
        for (int p = 0; p < 4; p++) {
            for (int what = 0; what < 5; what++) {
                C.gives(x, "person(" + p + ", " + what + ")", x.person(p, what), due[p][what]);
            }
        }
        C.fails(x, "person(4, 9)", x.person(4, 9), 2);
        C.fails(x, "person(-1, 0)", x.person(-1, 0), 2);
        C.fails(x, "person(0, 5)", x.person(0, 5), 5);
        C.fails(x, "person(0, -1)", x.person(0, -1), 5);
    }

    private static void strandsAndDinners() {
        HairProvince x = C.land(Check.LAND);
        C.gives(x, "strand(0, 0, 0) on DAY 0", x.strand(0, 0, 0), 0);
        C.gives(x, "strand(0, 0, 1) on DAY 0", x.strand(0, 0, 1), 0);
        x.day(2);
        C.gives(x, "strand(0, 0, 0)", x.strand(0, 0, 0), 4);
        C.gives(x, "strand(0, 0, 1)", x.strand(0, 0, 1), 2);
        C.fails(x, "strand(0, 2, 0)", x.strand(0, 2, 0), 8);
        C.fails(x, "strand(0, 2, 2)", x.strand(0, 2, 2), 5);
        C.fails(x, "strand(0, 0, -1)", x.strand(0, 0, -1), 5);
        C.fails(x, "strand(4, 0, 9)", x.strand(4, 0, 9), 2);
        C.fails(x, "strand(0, 4, 9)", x.strand(0, 4, 9), 2);
        C.fails(x, "strand(-1, 0, 0)", x.strand(-1, 0, 0), 2);
        C.fails(x, "strand(0, -1, 0)", x.strand(0, -1, 0), 2);
        long[][] due = {{0, 1, 3}, {1, 2, 2}, {2, 3, 5}};
        for (int d = 0; d < 3; d++) {
            for (int what = 0; what < 3; what++) {
                C.gives(x, "dinner(" + d + ", " + what + ")", x.dinner(d, what), due[d][what]);
            }
        }
        C.fails(x, "dinner(3, 9)", x.dinner(3, 9), 2);
        C.fails(x, "dinner(-1, 0)", x.dinner(-1, 0), 2);
        C.fails(x, "dinner(0, 3)", x.dinner(0, 3), 5);
        C.fails(x, "dinner(0, -1)", x.dinner(0, -1), 5);
    }

    private static void hair() {
        HairProvince x = C.land("word a grey 2;word b grows 2 grey 2;word c;person p keeps c b a;person q;");
        C.gives(x, "longest(0), all as long", x.longest(0), 0);
        x.day(1);
        C.gives(x, "longest(0)", x.longest(0), 1);
        x.day(3);
        C.gives(x, "longest(0), the first of two as long", x.longest(0), 1);
        x.day(1);
        C.gives(x, "longest(0), the others being grey", x.longest(0), 2);
        C.fails(x, "longest(1)", x.longest(1), 8);
        C.fails(x, "longest(2)", x.longest(2), 2);
        C.fails(x, "longest(-1)", x.longest(-1), 2);
        C.fails(x, "copyHair(4)", x.copyHair(4), 1);
        C.fails(x, "copyHair(-1)", x.copyHair(-1), 1);
        C.fails(x, "copyHair(0)", x.copyHair(0), 3);
        Check.fill(x, 0, 7);
        C.fails(x, "copyHair(0) of one", x.copyHair(0), 4);
        C.gives(x, "read(0, 0) as it was", x.read(0, 0), 7);
        Check.fill(x, 0, 7, 7, 7);
        C.gives(x, "copyHair(0)", x.copyHair(0), 2);
        C.gives(x, "read(0, 0)", x.read(0, 0), 2 + 4 + 5);
        C.gives(x, "read(0, 1)", x.read(0, 1), 0);
        C.gives(x, "read(0, 2)", x.read(0, 2), 7);
        HairProvince y = C.land("word a grows 9 grey 99;person p keeps a;");
        y.day(15);
        y.tray(1, 0, 1);
        C.gives(y, "copyHair(1)", y.copyHair(1), 1);
        C.gives(y, "read(1, 0), 135 cut to 8 bits", y.read(1, 0), -121);
        HairProvince z = new HairProvince();
        z.tray(2, 0, 0);
        C.gives(z, "copyHair(2) of nobody", z.copyHair(2), 0);
    }
}
