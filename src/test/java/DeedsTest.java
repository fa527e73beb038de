/** Promises 20 to 29, and DAYS as the document tells them. */
public final class DeedsTest {
    private static final Check C = new Check("DeedsTest");

    public static void main(String[] args) {
        days();
        lastDay();
        oldStrands();
        dinners();
        saying();
        keeping();
        learning();
        cutting();
        tempersAndTrades();
        rules();
        invitations();
        C.end();
    }

    private static void days() {
        HairProvince x = C.land(Check.LAND);
        C.fails(x, "day(0)", x.day(0), 5);
        C.fails(x, "day(100)", x.day(100), 5);
        C.fails(x, "day(-1)", x.day(-1), 5);
        // DAY 2: cid (6 above 3) says debt to bob. DAY 3: ann (9 above 6) says plot to bob.
        C.gives(x, "day(1)", x.day(1), 0);
        C.gives(x, "day(1)", x.day(1), 1);
        C.gives(x, "word(2, 2)", x.word(2, 2), 6);
        C.gives(x, "word(2, 3)", x.word(2, 3), 0);
        C.gives(x, "day(1)", x.day(1), 1);
        C.gives(x, "word(0, 2)", x.word(0, 2), 3);
        C.gives(x, "person(0, 3)", x.person(0, 3), 2);
        // DAY 9: ann (9 above 6) says love to bob.
        C.gives(x, "day(5)", x.day(5), 0);
        C.gives(x, "day(1)", x.day(1), 1);
        C.gives(x, "person(1, 2)", x.person(1, 2), 7);
        C.gives(x, "person(1, 3)", x.person(1, 3), 0);
        C.gives(x, "many(6)", x.many(6), 9);
    }

    private static void lastDay() {
        HairProvince x = C.land("word a grows 9 grey 99;person p temper 999 keeps a;");
        for (int i = 0; i < 101; i++) {
            C.gives(x, "day(99)", x.day(99), 0);
        }
        C.gives(x, "many(6)", x.many(6), 9999);
        C.fails(x, "day(1) at the last", x.day(1), 7);
        C.fails(x, "day(100) at the last", x.day(100), 5);
        C.gives(x, "many(6) as it was", x.many(6), 9999);
        C.gives(x, "strand(0, 0, 0)", x.strand(0, 0, 0), 891);
        C.gives(x, "strand(0, 0, 1)", x.strand(0, 0, 1), 999);
        C.gives(x, "hairIn(0, 200) beyond it", x.hairIn(0, 200), 891);
        HairProvince y = C.land("person p;");
        for (int i = 0; i < 100; i++) {
            y.day(99);
        }
        C.gives(y, "day(98)", y.day(98), 0);
        C.fails(y, "day(2)", y.day(2), 7);
        C.gives(y, "day(1)", y.day(1), 0);
    }

    private static void oldStrands() {
        HairProvince x = C.land("heard 0;word a grows 2 grey 3;person p keeps a;person q barber;");
        int[] lengths = {2, 4, 6, 6, 6};
        for (int i = 0; i < 5; i++) {
            x.day(1);
            C.gives(x, "strand(0, 0, 0) on DAY " + (i + 1), x.strand(0, 0, 0), lengths[i]);
            C.gives(x, "strand(0, 0, 1) on DAY " + (i + 1), x.strand(0, 0, 1), i + 1);
        }
        x.cut(0, 1);
        x.day(2);
        C.gives(x, "strand(0, 0, 0), grey and cut", x.strand(0, 0, 0), 0);
        C.gives(x, "strand(0, 0, 1), as old as it was", x.strand(0, 0, 1), 7);
        C.gives(x, "strand(1, 0, 0), new", x.strand(1, 0, 0), 4);
        for (int i = 0; i < 11; i++) {
            x.day(99);
        }
        C.gives(x, "strand(0, 0, 1) at most", x.strand(0, 0, 1), 999);
        C.gives(x, "strand(1, 0, 1) at most", x.strand(1, 0, 1), 999);
    }

    private static void dinners() {
        // HAIR as much as TEMPER is not above it.
        HairProvince x = C.land("word a;person p temper 3 keeps a;person q;dinner p q every 1;");
        C.gives(x, "day(3)", x.day(3), 0);
        C.gives(x, "day(1)", x.day(1), 1);
        // Of several as long the first; what the other KNOWS is left out; the second speaks, too.
        HairProvince y = C.land("word a;word b;word c grows 9;person p temper 0 keeps c b a;person q temper 0 keeps c;"
            + "dinner q p every 2;");
        y.learn(1, 0);
        C.gives(y, "day(2): p says b, q has nothing that p does not KNOW", y.day(2), 1);
        C.gives(y, "person(1, 2)", y.person(1, 2), 7);
        C.gives(y, "person(0, 3)", y.person(0, 3), 5);
        C.gives(y, "day(2): nothing is left", y.day(2), 0);
        // Both at one DINNER, and DINNER by DINNER on one DAY: q says to p what p says to r at the next.
        HairProvince z = C.land("word a;word b;person p temper 0 keeps a;person q temper 0 keeps b;person r;"
            + "dinner p q every 1;dinner p r every 1;");
        C.gives(z, "day(1): each says one; p KEEPS nothing more", z.day(1), 2);
        C.gives(z, "person(0, 2)", z.person(0, 2), 3);
        C.gives(z, "person(1, 2)", z.person(1, 2), 3);
        C.gives(z, "person(2, 2)", z.person(2, 2), 0);
        // The first's saying makes the HAIR less at the next DINNER.
        HairProvince u = C.land("word a;word b;person p temper 1 keeps a b;person q;person r;"
            + "dinner p q every 1;dinner p r every 1;");
        C.gives(u, "day(1): one alone", u.day(1), 1);
        C.gives(u, "person(1, 2)", u.person(1, 2), 1);
        C.gives(u, "person(2, 2)", u.person(2, 2), 0);
        C.gives(u, "day(1): b to q, then nothing", u.day(1), 1);
        C.gives(u, "many(8)", u.many(8), 2);
        // EVERY divides the DAY, not the DAYS since it was invited.
        HairProvince v = C.land("word a;person p temper 0 keeps a;person q;");
        v.day(4);
        v.invite(0, 1, 3);
        C.gives(v, "day(1)", v.day(1), 0);
        C.gives(v, "day(1), DAY 6", v.day(1), 1);
    }

    private static void saying() {
        HairProvince x = C.land(Check.LAND);
        x.day(1);
        C.gives(x, "say(0, 0, 3)", x.say(0, 0, 3), 1);
        C.gives(x, "person(0, 2), KNOWN still", x.person(0, 2), 3);
        C.gives(x, "person(0, 3)", x.person(0, 3), 2);
        C.gives(x, "person(3, 2)", x.person(3, 2), 9);
        C.gives(x, "person(3, 3)", x.person(3, 3), 8);
        C.gives(x, "many(8), not at a DINNER", x.many(8), 0);
        C.fails(x, "say(0, 0, 2), not KEPT", x.say(0, 0, 2), 9);
        C.fails(x, "say(0, 1, 0), to himself", x.say(0, 1, 0), 9);
        x.learn(2, 1);
        C.fails(x, "say(0, 1, 2), KNOWN", x.say(0, 1, 2), 9);
        C.fails(x, "say(4, 0, 1)", x.say(4, 0, 1), 2);
        C.fails(x, "say(0, 4, 1)", x.say(0, 4, 1), 2);
        C.fails(x, "say(0, 1, 4)", x.say(0, 1, 4), 2);
        C.fails(x, "say(-1, 0, 1)", x.say(-1, 0, 1), 2);
        C.fails(x, "say(0, -1, 1)", x.say(0, -1, 1), 2);
        C.fails(x, "say(0, 1, -1)", x.say(0, 1, -1), 2);
        C.gives(x, "say(0, 1, 1)", x.say(0, 1, 1), 0);
    }

    private static void keeping() {
        HairProvince x = C.land(Check.LAND);
        x.day(1);
        C.fails(x, "keep(0, 0), KEPT", x.keep(0, 0), 9);
        C.fails(x, "keep(0, 2), not KNOWN", x.keep(0, 2), 9);
        x.say(0, 0, 1);
        C.gives(x, "keep(0, 0) anew", x.keep(0, 0), 2);
        C.gives(x, "strand(0, 0, 0)", x.strand(0, 0, 0), 0);
        C.gives(x, "strand(0, 0, 1)", x.strand(0, 0, 1), 0);
        C.gives(x, "strand(0, 1, 1)", x.strand(0, 1, 1), 1);
        C.gives(x, "keep(1, 0)", x.keep(1, 0), 1);
        C.fails(x, "keep(4, 0)", x.keep(4, 0), 2);
        C.fails(x, "keep(0, 4)", x.keep(0, 4), 2);
        C.fails(x, "keep(-1, 0)", x.keep(-1, 0), 2);
        C.fails(x, "keep(0, -1)", x.keep(0, -1), 2);
    }

    private static void learning() {
        HairProvince x = C.land(Check.LAND);
        C.gives(x, "learn(1, 0)", x.learn(1, 0), 2);
        C.gives(x, "learn(3, 0)", x.learn(3, 0), 3);
        C.gives(x, "person(3, 2)", x.person(3, 2), 9);
        C.gives(x, "person(3, 3)", x.person(3, 3), 8);
        C.fails(x, "learn(0, 0)", x.learn(0, 0), 9);
        C.fails(x, "learn(3, 0) again", x.learn(3, 0), 9);
        C.fails(x, "learn(4, 0)", x.learn(4, 0), 2);
        C.fails(x, "learn(0, 4)", x.learn(0, 4), 2);
        C.fails(x, "learn(-1, 0)", x.learn(-1, 0), 2);
        C.fails(x, "learn(0, -1)", x.learn(0, -1), 2);
    }

    private static void cutting() {
        HairProvince x = C.land("heard 4;word a;word b grows 2;word c grows 3;word d grows 5;"
            + "person p temper 99 keeps a b c d;person q barber keeps d;person r;");
        x.day(2);
        x.learn(1, 2);
        // a is 2 long, b 4, c 6 (KNOWN), d 10 (KEPT).
        C.gives(x, "cut(0, 1)", x.cut(0, 1), 2);
        C.gives(x, "person(1, 2)", x.person(1, 2), 14);
        C.gives(x, "person(1, 3)", x.person(1, 3), 10);
        C.gives(x, "strand(1, 1, 0)", x.strand(1, 1, 0), 0);
        C.gives(x, "strand(1, 1, 1)", x.strand(1, 1, 1), 0);
        C.gives(x, "strand(1, 3, 0), as it was", x.strand(1, 3, 0), 10);
        for (int w = 0; w < 4; w++) {
            C.gives(x, "strand(0, " + w + ", 0)", x.strand(0, w, 0), 0);
            C.gives(x, "strand(0, " + w + ", 1)", x.strand(0, w, 1), 2);
        }
        C.gives(x, "person(0, 3), all KEPT on", x.person(0, 3), 15);
        C.gives(x, "cut(0, 1) again", x.cut(0, 1), 0);
        C.gives(x, "cut(2, 1), without hair", x.cut(2, 1), 0);
        C.gives(x, "many(9)", x.many(9), 3);
        C.fails(x, "cut(0, 2), no BARBER", x.cut(0, 2), 9);
        C.fails(x, "cut(1, 1), himself", x.cut(1, 1), 9);
        C.fails(x, "cut(3, 1)", x.cut(3, 1), 2);
        C.fails(x, "cut(0, 3)", x.cut(0, 3), 2);
        C.fails(x, "cut(-1, 1)", x.cut(-1, 1), 2);
        C.fails(x, "cut(0, -1)", x.cut(0, -1), 2);
        C.gives(x, "many(9) as it was", x.many(9), 3);
        x.rule(4, 0);
        C.gives(x, "cut(0, 1), HEARD 0", x.cut(0, 1), 1);
    }

    private static void tempersAndTrades() {
        HairProvince x = C.land(Check.LAND);
        C.gives(x, "train(0, 999)", x.train(0, 999));
        C.gives(x, "person(0, 0)", x.person(0, 0), 999);
        C.gives(x, "train(0, 0)", x.train(0, 0));
        C.gives(x, "person(0, 0)", x.person(0, 0), 0);
        C.fails(x, "train(0, 1000)", x.train(0, 1000), 5);
        C.fails(x, "train(0, -1)", x.train(0, -1), 5);
        C.fails(x, "train(4, -1)", x.train(4, -1), 2);
        C.fails(x, "train(-1, 1)", x.train(-1, 1), 2);
        C.gives(x, "person(0, 0) as it was", x.person(0, 0), 0);
        C.gives(x, "trade(0, true)", x.trade(0, true));
        C.gives(x, "many(7)", x.many(7), 11);
        C.fails(x, "trade(0, true) again", x.trade(0, true), 9);
        C.gives(x, "trade(1, false)", x.trade(1, false));
        C.gives(x, "many(7)", x.many(7), 9);
        C.fails(x, "trade(2, false)", x.trade(2, false), 9);
        C.fails(x, "trade(4, false)", x.trade(4, false), 2);
        C.fails(x, "trade(-1, true)", x.trade(-1, true), 2);
        C.fails(x, "cut(2, 1), no BARBER any more", x.cut(2, 1), 9);
        C.gives(x, "cut(2, 0), a BARBER now", x.cut(2, 0), 0);
    }

    private static void rules() {
        HairProvince x = C.land(Check.LAND);
        C.gives(x, "rule(4, 99)", x.rule(4, 99));
        C.gives(x, "rule(5, 16)", x.rule(5, 16));
        C.gives(x, "many(4)", x.many(4), 99);
        C.gives(x, "many(5)", x.many(5), 16);
        C.fails(x, "rule(4, 100)", x.rule(4, 100), 5);
        C.fails(x, "rule(4, -1)", x.rule(4, -1), 5);
        C.fails(x, "rule(5, 17)", x.rule(5, 17), 5);
        C.fails(x, "rule(5, -1)", x.rule(5, -1), 5);
        C.fails(x, "rule(3, 1)", x.rule(3, 1), 5);
        C.fails(x, "rule(6, 1)", x.rule(6, 1), 5);
        C.gives(x, "many(4) as it was", x.many(4), 99);
        C.gives(x, "many(5) as it was", x.many(5), 16);
        C.gives(x, "rule(4, 0)", x.rule(4, 0));
        C.gives(x, "rule(5, 0)", x.rule(5, 0));
        C.gives(x, "many(4)", x.many(4), 0);
        C.gives(x, "many(5)", x.many(5), 0);
    }

    private static void invitations() {
        HairProvince x = C.land(Check.LAND);
        C.gives(x, "invite(3, 0, 30)", x.invite(3, 0, 30), 3);
        C.gives(x, "dinner(3, 0)", x.dinner(3, 0), 3);
        C.gives(x, "dinner(3, 1)", x.dinner(3, 1), 0);
        C.gives(x, "dinner(3, 2)", x.dinner(3, 2), 30);
        C.fails(x, "invite(0, 0, 3)", x.invite(0, 0, 3), 5);
        C.fails(x, "invite(0, 1, 0)", x.invite(0, 1, 0), 5);
        C.fails(x, "invite(0, 1, 31)", x.invite(0, 1, 31), 5);
        C.fails(x, "invite(4, 4, 31)", x.invite(4, 4, 31), 2);
        C.fails(x, "invite(0, 4, 3)", x.invite(0, 4, 3), 2);
        C.fails(x, "invite(-1, 0, 3)", x.invite(-1, 0, 3), 2);
        C.fails(x, "invite(0, -1, 3)", x.invite(0, -1, 3), 2);
        C.gives(x, "invite(0, 1, 1)", x.invite(0, 1, 1), 4);
        C.gives(x, "invite(0, 1, 1)", x.invite(0, 1, 1), 5);
        C.fails(x, "invite(0, 1, 1), a seventh", x.invite(0, 1, 1), 7);
        C.fails(x, "invite(0, 0, 1), a seventh", x.invite(0, 0, 1), 5);
        for (int left = 5; left >= 0; left--) {
            C.gives(x, "cancel()", x.cancel(), left);
            C.gives(x, "many(2)", x.many(2), left);
        }
        C.fails(x, "cancel()", x.cancel(), 8);
        C.gives(x, "invite(2, 1, 7)", x.invite(2, 1, 7), 0);
        C.gives(x, "dinner(0, 2)", x.dinner(0, 2), 7);
    }
}
