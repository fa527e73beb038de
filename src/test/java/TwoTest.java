/** Promises 49 to 52. */
public final class TwoTest {
    private static final Check C = new Check("TwoTest");

    public static void main(String[] args) {
        games();
        moves();
        beginnings();
        gameStatuses();
        safe();
        riskiest();
        C.end();
    }

    private static void games() {
        // ann KEEPS plot (2 a DAY) and love (1), cid debt (3).
        HairProvince x = C.land(Check.LAND);
        C.gives(x, "game(0, 2, 0)", x.game(0, 2, 0), 0);
        // One turn: nothing 3 - 3; plot (3 + 2) - 1; love (3 + 1) - 2.
        C.gives(x, "game(0, 2, 1)", x.game(0, 2, 1), 4);
        C.gives(x, "moveOf(0, 2, 1)", x.moveOf(0, 2, 1), 0);
        // Two turns: ann says plot, cid debt: cid 4, ann 2 + 3.
        C.gives(x, "game(0, 2, 2)", x.game(0, 2, 2), -1);
        C.due("its STATUS tells -1 from NONE", x.status(), 0);
        C.gives(x, "moveOf(0, 2, 2)", x.moveOf(0, 2, 2), 0);
        // Three turns: plot, debt, love: cid 6 + 1, ann 6; love, debt, plot: cid 3 + 2, ann 6.
        C.gives(x, "game(0, 2, 3)", x.game(0, 2, 3), 1);
        C.gives(x, "moveOf(0, 2, 3)", x.moveOf(0, 2, 3), 0);
        C.gives(x, "many(10), all as it was", x.many(10), 0);
        C.gives(x, "person(0, 3), all as it was", x.person(0, 3), 3);
        x.day(1);
        C.gives(x, "game(0, 2, 0) on DAY 1", x.game(0, 2, 0), 0);
        C.gives(x, "game(2, 3, 0)", x.game(2, 3, 0), -2);
        C.gives(x, "game(3, 2, 0)", x.game(3, 2, 0), 2);
        // Nobody says back what was said to him: the other KNOWS it.
        HairProvince y = C.land("word a grows 5;person p keeps a;person q;");
        C.gives(y, "game(0, 1, 2)", y.game(0, 1, 2), 10);
        C.gives(y, "game(1, 0, 2): p says it", y.game(1, 0, 2), -5);
        C.gives(y, "game(1, 0, 1): nothing can be said", y.game(1, 0, 1), 5);
        // DINNERS do not come in, and what is grey does not grow.
        HairProvince z = C.land("word a grows 5 grey 2;person p temper 0 keeps a;person q;dinner p q every 1;");
        C.gives(z, "game(1, 0, 1)", z.game(1, 0, 1), 5);
        HairProvince u = C.land("word a grows 5 grey 2;person p keeps a;person q;");
        u.day(2);
        C.gives(u, "game(1, 0, 1), grey", u.game(1, 0, 1), 10);
        C.gives(u, "game(0, 1, 3): said at once, it grows twice", u.game(0, 1, 3), 10);
    }

    private static void moves() {
        // All as good: the first WORD; nothing comes last.
        HairProvince x = C.land("word a;word b;word c;person p keeps c b;person q;");
        C.gives(x, "moveOf(0, 1, 1)", x.moveOf(0, 1, 1), 1);
        x.learn(1, 1);
        C.gives(x, "moveOf(0, 1, 1), b being KNOWN", x.moveOf(0, 1, 1), 2);
        x.learn(1, 2);
        C.fails(x, "moveOf(0, 1, 1), all KNOWN", x.moveOf(0, 1, 1), 8);
        C.fails(x, "moveOf(1, 0, 3), nothing KEPT", x.moveOf(1, 0, 3), 8);
        // A WORD said is his loss who has it no more: the longest is said.
        HairProvince y = C.land("word a grows 1;word b grows 4;person p keeps a b;person q;");
        y.day(3);
        C.gives(y, "moveOf(0, 1, 1): b", y.moveOf(0, 1, 1), 1);
        C.gives(y, "game(0, 1, 1): 4 - 4", y.game(0, 1, 1), 0);
        // b, then a: q has 12 + 1, p nothing; a, then b: q has 3 + 4.
        C.gives(y, "moveOf(0, 1, 3)", y.moveOf(0, 1, 3), 1);
        C.gives(y, "game(0, 1, 3)", y.game(0, 1, 3), 13);
        // What is grey with one grows anew with the other.
        HairProvince z = C.land("word a grows 5 grey 1;word b grows 5 grey 1;person p keeps a;person q keeps b;");
        z.day(1);
        C.gives(z, "game(0, 1, 1): 5 + 5 - 0", z.game(0, 1, 1), 10);
        C.gives(z, "game(0, 1, 2): each says his, 5 - 5", z.game(0, 1, 2), 0);
    }

    /** Each way to begin starts from the same HAIR, as old as it is, whatever was tried ahead of it. */
    private static void beginnings() {
        HairProvince x = C.land("word a grows 1 grey 1;word b grows 3 grey 9;person p keeps a b;person q;");
        x.day(2);
        // a is grey with 1, b 6: b said is 3 with q, and a stays 1; a said is 1 with q, and b becomes 9.
        C.gives(x, "game(0, 1, 1)", x.game(0, 1, 1), 2);
        C.gives(x, "moveOf(0, 1, 1)", x.moveOf(0, 1, 1), 1);
        C.gives(x, "game(0, 1, 1) again", x.game(0, 1, 1), 2);
        HairProvince y = C.land("word a grey 3;word b grows 2 grey 3;word c grey 3;word d grey 3;word e grey 3;"
            + "word f grey 3;word g grey 3;word h grey 3;person p keeps a b c d e f g h;person q;");
        y.day(3);
        // b said: 2 with q, seven times 3 with p.
        C.gives(y, "game(0, 1, 1) of eight", y.game(0, 1, 1), 2 - 21);
        C.gives(y, "moveOf(0, 1, 1) of eight", y.moveOf(0, 1, 1), 1);
        // Then q says nothing, having nothing to say; then any other: q has 6 and 1, p six times 3.
        C.gives(y, "game(0, 1, 3) of eight", y.game(0, 1, 3), 7 - 18);
        C.gives(y, "game(1, 0, 3) of eight: p says b", y.game(1, 0, 3), 21 - 4);
    }

    private static void gameStatuses() {
        HairProvince x = C.land(Check.LAND);
        C.fails(x, "game(4, 4, 9)", x.game(4, 4, 9), 2);
        C.fails(x, "game(0, 4, 1)", x.game(0, 4, 1), 2);
        C.fails(x, "game(-1, 0, 1)", x.game(-1, 0, 1), 2);
        C.fails(x, "game(0, -1, 1)", x.game(0, -1, 1), 2);
        C.fails(x, "game(0, 0, 1)", x.game(0, 0, 1), 5);
        C.fails(x, "game(0, 1, 4)", x.game(0, 1, 4), 5);
        C.fails(x, "game(0, 1, -1)", x.game(0, 1, -1), 5);
        C.fails(x, "moveOf(4, 4, 9)", x.moveOf(4, 4, 9), 2);
        C.fails(x, "moveOf(0, 4, 1)", x.moveOf(0, 4, 1), 2);
        C.fails(x, "moveOf(-1, 0, 1)", x.moveOf(-1, 0, 1), 2);
        C.fails(x, "moveOf(0, -1, 1)", x.moveOf(0, -1, 1), 2);
        C.fails(x, "moveOf(0, 0, 1)", x.moveOf(0, 0, 1), 5);
        C.fails(x, "moveOf(0, 1, 0)", x.moveOf(0, 1, 0), 5);
        C.fails(x, "moveOf(0, 1, 4)", x.moveOf(0, 1, 4), 5);
        C.fails(x, "moveOf(0, 1, -1)", x.moveOf(0, 1, -1), 5);
    }

    private static void safe() {
        String all = "word a;word b;person p keeps a;person q keeps a;person r keeps a;person s keeps a;"
            + "person t keeps a;person u keeps a;";
        HairProvince x = C.land(all);
        C.gives(x, "safe(0, 0)", x.safe(0, 0));
        C.fraction(x, "safe(0, 0)", 1, 1);
        C.gives(x, "safe(0, 1)", x.safe(0, 1));
        C.fraction(x, "safe(0, 1)", 11390625, 16777216);
        C.gives(x, "safe(0, 2)", x.safe(0, 2));
        C.fraction(x, "safe(0, 2)", 129746337890625L, 281474976710656L);
        C.gives(x, "safe(1, 2), KEPT by nobody", x.safe(1, 2));
        C.fraction(x, "safe(1, 2)", 1, 1);
        x.rule(5, 16);
        C.gives(x, "safe(0, 1)", x.safe(0, 1));
        C.fraction(x, "safe(0, 1), ODDS 16", 0, 1);
        C.gives(x, "safe(0, 0)", x.safe(0, 0));
        C.fraction(x, "safe(0, 0), ODDS 16", 1, 1);
        x.rule(5, 0);
        C.gives(x, "safe(0, 2)", x.safe(0, 2));
        C.fraction(x, "safe(0, 2), ODDS 0", 1, 1);
        x.rule(5, 8);
        C.gives(x, "safe(0, 2)", x.safe(0, 2));
        C.fraction(x, "safe(0, 2), ODDS 8", 1, 4096);
        C.fails(x, "safe(2, 9)", x.safe(2, 9), 2);
        C.fails(x, "safe(-1, 0)", x.safe(-1, 0), 2);
        C.fails(x, "safe(0, -1)", x.safe(0, -1), 5);
        C.fails(x, "safe(0, 3)", x.safe(0, 3), 5);
        C.fraction(x, "safe(0, 3)", 1, 4096);
        x.say(0, 0, 1);
        C.fraction(x, "whatever came since", 1, 4096);
    }

    private static void riskiest() {
        HairProvince x = C.land("word a;word b;word c;word d;person p keeps b c;person q keeps c;person r keeps c d;"
            + "person s keeps d b;person t keeps b;");
        C.gives(x, "riskiest(), the first of two", x.riskiest(), 1);
        x.rule(5, 16);
        C.gives(x, "riskiest(), all that are KEPT alike", x.riskiest(), 1);
        x.rule(5, 0);
        C.gives(x, "riskiest(), all alike", x.riskiest(), 0);
        x.rule(5, 3);
        x.learn(0, 3);
        x.keep(0, 3);
        C.gives(x, "riskiest(), three of as many", x.riskiest(), 1);
        x.learn(1, 3);
        x.keep(1, 3);
        C.gives(x, "riskiest(), KEPT by four", x.riskiest(), 3);
        C.fraction(x, "riskiest() leaves the FRACTION", 0, 1);
        HairProvince y = C.land("person p;");
        C.fails(y, "riskiest()", y.riskiest(), 8);
    }
}
