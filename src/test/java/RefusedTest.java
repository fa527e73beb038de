import java.util.function.Supplier;

/**
 * Each call that the document refuses, promise by promise: its answer, its STATUS, and that nothing else has changed;
 * where two reasons hold at once, that the one is told which the document asks first.
 */
public final class RefusedTest {
    private static final Check C = new Check("RefusedTest");
    private static final Edge E = new Edge(C);

    public static void main(String[] args) {
        newObject();
        trays();
        texts();
        whatIsAsked();
        deeds();
        ahead();
        unsaid();
        rounds();
        games();
        years();
        faultsChangeNothing();
        full();
        late();
        none();
        C.end();
    }

    /** Something of all there is: TRAYS (2 has no place, 3 is MISSING), YEARS, two MARKS, a FRACTION, a tape. */
    static HairProvince rich() {
        return rich("heard 7;word zz;");
    }

    private static HairProvince rich(String tape) {
        HairProvince x = new HairProvince();
        x.province(Check.feed(x, Check.LAND));
        x.years(Check.feed(x, "day 3;any;keep bob plot;cut ann by bob;"));
        Check.fill(x, 0, 3, 9, 5, 15, -1, 1000);
        x.tray(1, 0, 2);
        x.write(1, 0, 1);
        x.tray(2, 1, 0);
        x.mark();
        x.live(5);
        x.back();
        x.mark();
        x.day(1);
        x.mark();
        // bob KNOWS plot and cid love, but they KEEP neither.
        x.learn(1, 0);
        x.learn(2, 1);
        x.safe(0, 1);
        Check.feed(x, tape);
        return x;
    }

    /** As much as there can be: WORDS, PEOPLE, DINNERS, HALVES, STEPS, MARKS, a TRAY, the tape. */
    static HairProvince fullOne() {
        HairProvince x = new HairProvince();
        x.province(Check.feed(x, "heard 99;odds 16;word a grows 9 grey 99;word b grows 9 grey 99;word c grows 9 grey 99;"
            + "word d grows 9 grey 99;word e grows 9 grey 99;word f grows 9 grey 99;word g grows 9 grey 99;"
            + "word h grows 9 grey 99;person p temper 999 barber keeps a b c d e f g h;person q temper 0 barber;"
            + "person r barber;person s barber;person t barber;person u barber keeps h;dinner p q every 30;"
            + "dinner q r every 30;dinner r s every 30;dinner s t every 30;dinner t u every 30;dinner u p every 30;"
            + "halves a b;halves a b;halves c d;halves c d;halves e f;halves e f;"));
        x.years(Check.feed(x, "any;".repeat(30)));
        x.tray(3, 3, 60);
        x.mark();
        x.mark();
        x.mark();
        Check.feed(x, "word zz;" + " ".repeat(892));
        return x;
    }

    /** WORDS that nobody KNOWS, and nothing else but two PEOPLE. */
    static HairProvince nothingKnown() {
        HairProvince x = new HairProvince();
        x.province(Check.feed(x, "word a;word b;person p;person q barber;"));
        return x;
    }

    static HairProvince atDay(int day) {
        HairProvince x = new HairProvince();
        x.province(Check.feed(x, "word a;person p temper 0 keeps a;person q;dinner p q every 7;"));
        for (int left = day; left > 0; left -= 99) {
            x.day(Math.min(left, 99));
        }
        return x;
    }

    private static void newObject() {
        E.on(HairProvince::new);
        E.no(3, "write", "0 0 0", "3 -1 9");
        E.no(3, "read", "0 0", "1 0", "2 0", "3 0", "0 -1");
        E.no(3, "pour", "0 0 1 0 0", "3 0 3 0 0", "0 -1 0 -1 -1");
        E.no(5, "province", "-1", "1", "20", "min", "max");
        E.no(5, "years", "-1", "1", "301", "min", "max");
        E.no(5, "many", "-1", "11");
        E.no(2, "word", "0 0", "0 5", "-1 0");
        E.no(2, "person", "0 0", "0 5", "-1 0");
        E.no(2, "strand", "0 0 0", "0 0 2");
        E.no(2, "dinner", "0 0", "0 3");
        E.no(2, "longest", "0");
        E.no(3, "copyHair", "0", "3");
        E.no(5, "day", "0", "100");
        E.no(2, "say", "0 0 0", "0 0 1");
        E.no(2, "keep", "0 0");
        E.no(2, "learn", "0 0");
        E.no(2, "cut", "0 0", "0 1");
        E.no(2, "train", "0 0", "0 -1");
        E.no(2, "trade", "0 true", "0 false");
        E.no(5, "rule", "4 100", "5 17", "3 0");
        E.no(2, "invite", "0 1 1", "0 0 0");
        E.no(8, "cancel", "");
        E.no(2, "hairIn", "0 0", "0 201");
        E.no(2, "knownIn", "0 0", "0 201");
        E.no(2, "out", "0");
        E.no(2, "learnsIn", "0 0");
        E.no(2, "wildIn", "0");
        E.no(2, "dinesIn", "0");
        E.no(2, "quiet", "0 0", "0 201");
        E.no(2, "quietHair", "0 0", "0 201");
        E.no(3, "unsaid", "0 0", "0 21");
        E.no(3, "sure", "0 0", "0 21");
        E.no(3, "ask", "0 0", "0 21");
        E.no(5, "lengthOf", "1 0", "-1 0", "0 -1", "0 1000");
        E.no(5, "daysFor", "1 0", "-1 0", "0 -1", "0 10000");
        E.no(8, "daysFor", "0 1", "0 9999");
        E.no(5, "round", "1", "-1");
        E.no(3, "plaits", "0 0 0", "1 0 21");
        E.no(3, "plaitAt", "0 0 0 0", "1 0 21 0");
        E.no(2, "tellers", "0 0");
        E.no(2, "rumour", "0 0");
        E.no(2, "game", "0 1 0", "0 0 4");
        E.no(2, "moveOf", "0 1 1", "0 0 4");
        E.no(2, "safe", "0 0", "0 3");
        E.no(8, "riskiest", "");
        E.no(5, "live", "-1", "10000");
        E.no(8, "live", "0", "9999");
        E.no(5, "lived", "-1", "5");
        E.no(8, "lived", "0", "4");
        E.no(5, "mean", "0 0", "0 21", "9981 20");
        E.no(8, "mean", "0 1", "9980 20");
        E.no(8, "back", "");
    }

    /** Promises 5 to 8: 1, 3, 4, 5, 6, 11. */
    private static void trays() {
        E.on(RefusedTest::rich);
        E.no(1, "tray", "-1 0 1", "4 0 1", "min 0 1", "max 0 1", "0 -1 1", "0 4 1", "0 min 1", "0 max 1");
        E.no(1, "tray", "0 4 61", "0 4 -1", "4 0 61", "4 0 -1", "-1 -1 -1");
        E.no(5, "tray", "0 3 61", "3 0 61", "1 1 max");
        E.no(6, "tray", "0 3 -1", "3 0 -1", "1 1 min");
        E.no(1, "write", "-1 0 5", "4 0 5", "min min min", "max max max", "4 -1 5");
        E.no(3, "write", "3 0 5", "3 -1 5", "3 max 5");
        E.no(4, "write", "0 -1 5", "0 6 5", "0 min 5", "0 max 5", "1 2 5", "2 0 5");
        E.no(1, "read", "-1 0", "4 0", "min min", "max max", "4 -1");
        E.no(3, "read", "3 0", "3 -1", "3 max");
        E.no(4, "read", "0 -1", "0 6", "0 min", "0 max", "1 2", "2 0");
        E.no(1, "pour", "-1 0 0 0 1", "4 0 0 0 1", "0 0 -1 0 1", "0 0 4 0 1", "max 0 min 0 1");
        E.no(1, "pour", "3 0 4 0 1", "4 0 3 0 1", "4 -1 0 -1 -1");
        E.no(3, "pour", "3 0 0 0 1", "0 0 3 0 1", "3 0 3 0 0", "3 -1 0 -1 -1");
        E.no(11, "pour", "0 0 1 0 1", "1 0 0 0 1", "0 0 2 0 0", "0 0 1 0 -1", "0 -1 1 9 99", "0 9 1 0 min");
        E.no(6, "pour", "0 0 0 0 -1", "0 -1 0 9 -1", "0 0 0 0 min", "2 0 2 0 -1");
        E.no(4, "pour", "0 0 0 0 7", "0 1 0 0 6", "0 0 0 1 6", "0 6 0 0 1", "0 0 0 6 1", "0 7 0 0 0", "0 0 0 7 0");
        E.no(4, "pour", "0 -1 0 0 1", "0 0 0 -1 1", "0 -1 0 0 0", "0 0 0 -1 0", "2 0 2 0 1", "2 1 2 0 0");
        E.no(4, "pour", "0 0 0 0 max", "0 1 0 0 max", "0 0 0 1 max", "0 max 0 0 1", "0 0 0 max 1", "0 max 0 max max");
        E.no(4, "pour", "0 min 0 0 1", "0 0 0 min 1", "0 max 0 0 0", "0 min 0 min max");
        E.no(1, "copyHair", "-1", "4", "min", "max");
        E.no(3, "copyHair", "3");
        E.no(4, "copyHair", "1", "2");
    }

    /** Promises 10 and 11: 5 leaves the tape and the FAULT as they were. */
    private static void texts() {
        E.on(RefusedTest::rich);
        E.no(5, "province", "-1", "21", "900", "901", "min", "max");
        E.no(5, "years", "-1", "21", "300", "301", "min", "max");
        E.on(() -> {
            HairProvince x = rich();
            x.years(20);
            C.due("the FAULT of the tape as YEARS", x.fault(0), 2);
            Check.feed(x, "odds 2;");
            return x;
        });
        E.no(5, "province", "-1", "21");
        E.no(5, "years", "-1", "21");
    }

    /** Promises 13 to 18: 2 ahead of 5 ahead of 8. */
    private static void whatIsAsked() {
        E.on(RefusedTest::rich);
        E.no(5, "many", "-1", "11", "min", "max");
        E.no(2, "word", "-1 0", "4 0", "min 0", "max 0", "4 5", "-1 -1");
        E.no(5, "word", "0 -1", "0 5", "3 min", "3 max");
        E.no(2, "person", "-1 0", "4 0", "min 0", "max 0", "4 5", "-1 -1");
        E.no(5, "person", "0 -1", "0 5", "3 min", "3 max");
        E.no(2, "strand", "-1 0 0", "4 0 0", "0 -1 0", "0 4 0", "min min min", "max max max", "4 4 2", "0 4 -1");
        E.no(5, "strand", "0 0 -1", "0 0 2", "0 2 2", "1 0 -1", "3 3 min", "3 3 max");
        E.no(8, "strand", "0 2 0", "0 2 1", "1 0 0", "1 0 1", "2 1 0", "3 0 1");
        E.no(2, "dinner", "-1 0", "3 0", "min 0", "max 0", "3 3", "-1 -1");
        E.no(5, "dinner", "0 -1", "0 3", "2 min", "2 max");
        E.no(2, "longest", "-1", "4", "min", "max");
        E.no(8, "longest", "1");
    }

    /** Promises 20 to 29: 2 ahead of 5 ahead of 7, 2 ahead of 9. */
    private static void deeds() {
        E.on(RefusedTest::rich);
        E.no(5, "day", "0", "-1", "100", "min", "max");
        E.no(2, "say", "-1 0 3", "4 0 3", "0 -1 3", "0 4 3", "0 0 -1", "0 0 4", "min min min", "max max max");
        E.no(2, "say", "4 0 4", "0 4 0", "1 0 4");
        E.no(9, "say", "1 0 2", "1 1 0", "0 2 1", "0 0 0", "0 0 1", "0 1 2", "3 0 0");
        E.no(2, "keep", "-1 0", "4 0", "0 -1", "0 4", "min min", "max max");
        E.no(9, "keep", "0 0", "3 3", "1 1", "0 2", "2 0");
        E.no(2, "learn", "-1 0", "4 0", "0 -1", "0 4", "min min", "max max");
        E.no(9, "learn", "0 0", "1 0", "2 1", "3 3");
        E.no(2, "cut", "-1 1", "4 1", "0 -1", "0 4", "min min", "max max", "4 4", "4 0", "1 4");
        E.no(9, "cut", "0 2", "2 0", "1 1", "3 3", "0 0");
        E.no(2, "train", "-1 5", "4 5", "min 5", "max 5", "4 -1", "-1 1000");
        E.no(5, "train", "0 -1", "0 1000", "3 min", "3 max");
        E.no(2, "trade", "-1 true", "4 true", "4 false", "min false", "max true");
        E.no(9, "trade", "0 false", "1 true", "2 false", "3 true");
        E.no(5, "rule", "4 -1", "4 100", "4 min", "4 max", "5 -1", "5 17", "5 min", "5 max");
        E.no(5, "rule", "3 1", "6 1", "-1 1", "0 0", "min 1", "max 1", "6 -1");
        E.no(2, "invite", "-1 0 1", "4 0 1", "0 -1 1", "0 4 1", "4 4 1", "4 4 0", "0 4 31", "min max 1", "max min 1");
        E.no(5, "invite", "0 0 1", "3 3 30", "0 1 0", "0 1 -1", "0 1 31", "0 1 min", "0 1 max", "0 0 0");
    }

    /** Promises 30 to 37: 2 ahead of 5. */
    private static void ahead() {
        E.on(RefusedTest::rich);
        for (String call : new String[] {"hairIn", "knownIn", "quiet", "quietHair"}) {
            E.no(2, call, "-1 0", "4 0", "min 0", "max 0", "4 -1", "4 201", "-1 201");
            E.no(5, call, "0 -1", "0 201", "3 min", "3 max", "1 -1");
        }
        E.no(2, "out", "-1", "4", "min", "max");
        E.no(2, "learnsIn", "-1 0", "4 0", "0 -1", "0 4", "min min", "max max");
        E.no(8, "learnsIn", "0 2", "3 1");
        E.no(2, "wildIn", "-1", "4", "min", "max");
        E.no(8, "wildIn", "1", "2");
        E.no(2, "dinesIn", "-1", "4", "min", "max");
    }

    /** Promises 38 to 42: 1 ahead of 3 ahead of 4 ahead of 5 ahead of 8. */
    private static void unsaid() {
        E.on(RefusedTest::rich);
        for (String call : new String[] {"unsaid", "sure", "ask"}) {
            E.no(1, call, "-1 0", "4 0", "min 0", "max 0", "4 -1", "4 21", "-1 99");
            E.no(3, call, "3 0", "3 1", "3 -1", "3 21", "3 99");
            // Bad twos, and too few of them: too few comes first, whatever number that is.
            E.no(4, call, "0 4", "0 20", "0 21", "0 31", "0 max", "1 2", "2 1", "2 21");
            E.no(5, call, "0 -1", "0 min", "0 3", "2 -1", "2 min");
        }
        noSet();
        E.on(RefusedTest::rich);
        E.no(5, "lengthOf", "-1 0", "16 0", "min 0", "max 0", "0 -1", "0 1000", "15 min", "15 max", "16 1000");
        E.no(5, "daysFor", "-1 0", "16 0", "min 0", "max 0", "0 -1", "0 10000", "15 min", "15 max", "16 9999");
        E.no(8, "daysFor", "0 1", "1 11", "8 100", "15 152", "15 9999");
    }

    private static Supplier<HairProvince> withTwos(long... numbers) {
        return () -> {
            HairProvince x = rich();
            Check.fill(x, 0, numbers);
            return x;
        };
    }

    private static void noSet() {
        E.on(withTwos(0, 1, 1000, 0));
        E.gives(0, "unsaid", "0 1");
        E.no(8, "sure", "0 1");
        E.no(8, "ask", "0 1");
        // A number that can't be comes ahead of no set; too few ahead of both.
        for (String call : new String[] {"unsaid", "sure", "ask"}) {
            E.no(5, call, "0 2", "0 -1");
            E.no(4, call, "0 3");
        }
    }

    /** Promises 43 to 48. */
    private static void rounds() {
        E.on(RefusedTest::rich);
        E.no(5, "round", "-1", "16", "min", "max");
        for (String call : new String[] {"plaits", "plaitAt"}) {
            String k = call.equals("plaits") ? "" : " 0";
            E.no(1, call, "15 -1 0" + k, "15 4 0" + k, "15 min 0" + k, "15 max 0" + k, "99 4 99" + k);
            E.no(3, call, "15 3 0" + k, "99 3 99" + k, "-1 3 -1" + k);
            E.no(4, call, "15 2 1" + k, "99 2 1" + k, "15 1 2" + k, "15 0 4" + k, "15 1 max" + k, "-1 1 21" + k);
            E.no(5, call, "16 1 1" + k, "-1 1 1" + k, "min 1 0" + k, "max 1 0" + k, "15 1 -1" + k, "15 1 min" + k);
            // 9 is no WORD, be it asked or not.
            E.no(5, call, "15 0 1" + k, "0 0 1" + k, "1 0 3" + k);
        }
        E.no(5, "plaitAt", "16 1 1 9", "15 1 -1 -1", "15 0 1 4");
        E.no(8, "plaitAt", "15 1 1 -1", "15 1 1 4", "15 1 1 min", "15 1 1 max", "0 1 1 0", "8 1 1 1");
        E.no(2, "tellers", "-1 0", "4 0", "0 -1", "0 4", "min min", "max max");
        E.no(2, "rumour", "-1 0", "4 0", "0 -1", "0 4", "min min", "max max");
        E.on(() -> {
            HairProvince x = rich();
            x.learn(0, 2);
            x.keep(0, 2);
            Check.fill(x, 0, 0, 1, 1, 0, 2, 2);
            return x;
        });
        E.no(8, "round", "1", "15", "9");
        E.no(5, "round", "17", "16", "-1");
        // In a ring, and ahead of itself: no order.
        E.no(8, "plaitAt", "15 0 2 0", "3 0 2 1", "4 0 3 0", "15 0 3 -1");
    }

    /** Promises 49 to 52: 2 ahead of 5 ahead of 8. */
    private static void games() {
        E.on(RefusedTest::rich);
        for (String call : new String[] {"game", "moveOf"}) {
            E.no(2, call, "-1 0 1", "4 0 1", "0 -1 1", "0 4 1", "4 4 1", "4 4 4", "0 4 -1", "min 0 1", "0 max 1");
            E.no(5, call, "0 0 1", "3 3 3", "0 1 -1", "0 1 4", "0 1 min", "0 1 max", "0 0 4", "1 0 4");
        }
        E.no(5, "moveOf", "0 1 0", "1 0 0", "0 0 0");
        E.no(8, "moveOf", "1 0 1", "1 0 2", "1 0 3");
        E.no(2, "safe", "-1 0", "4 0", "min 0", "max 0", "4 -1", "4 3");
        E.no(5, "safe", "0 -1", "0 3", "3 min", "3 max");
    }

    /** Promises 53 to 57. */
    private static void years() {
        E.on(RefusedTest::rich);
        E.no(5, "live", "-1", "10000", "min", "max");
        E.no(5, "lived", "-1", "5", "min", "max");
        E.no(5, "mean", "-1 1", "-1 2", "10000 1", "0 0", "0 -1", "0 21", "9999 2", "9981 20", "9980 21");
        E.no(5, "mean", "max 1", "max 20", "max max", "min min", "0 max", "0 min", "min 20");
    }

    /** Of a text with a FAULT only the tape is gone, and fault() tells of it. */
    private static void faultsChangeNothing() {
        fault("province", "word a;word a;", 3, 12);
        fault("province", "heard 9;odds 9;person a;!", 1, 24);
        fault("province", "word a grows 10;", 4, 13);
        fault("province", ";", 2, 0);
        fault("province", "heard 1;heard 1;", 5, 8);
        fault("province", "person p;person q;person r;person s;person t;person u;person v;", 6, 54);
        fault("years", "day 1;any;end;", 2, 10);
        fault("years", "day 1;any?", 1, 9);
        fault("years", "day 21;", 4, 4);
        fault("years", "keep ann zz;", 3, 9);
        fault("years", "any;".repeat(31), 6, 120);
        fault("years", "loop 1;loop 1;loop 1;loop 1;", 7, 21);
    }

    private static void fault(String call, String text, int kind, int place) {
        HairProvince x = rich(text);
        C.fails(x, call + " of " + text, Edge.ask(x, call, "" + text.length()), 10);
        C.due("fault(0) of " + text, x.fault(0), kind);
        C.due("fault(1) of " + text, x.fault(1), place);
        String unlike = Seen.unlike(Seen.world(rich(text)), Seen.world(x));
        C.due(call + " of " + text + " changed something: " + unlike, unlike == null, true);
        C.due("fault(0) of " + text + " stays", x.fault(0), kind);
        C.due("fault(1) of " + text + " stays", x.fault(1), place);
        C.due("the tape behind " + text, x.feed(0, 0, 0, 0, 0), 20);
    }

    /** What is refused because there is no more room. */
    private static void full() {
        E.on(RefusedTest::fullOne);
        HairProvince x = fullOne();
        x.province(901);
        C.due("feed beyond 900 bytes", x.feed(1, 2, 3, 4, 5), -1);
        C.due("feed has no STATUS", x.status(), 5);
        String unlike = Seen.unlike(Seen.all(fullOne(), true), Seen.all(x, true));
        C.due("feed beyond 900 bytes changed something: " + unlike, unlike == null, true);
        E.no(5, "province", "901", "max", "-1");
        E.no(5, "years", "301", "900", "901", "-1");
        E.no(7, "mark", "");
        E.no(7, "invite", "0 1 1", "5 0 30");
        E.no(5, "invite", "0 0 1", "0 1 31", "0 1 0", "5 5 31");
        E.no(2, "invite", "6 0 1", "0 6 1", "6 6 31", "-1 0 0");
        E.no(9, "learn", "0 0", "0 7", "5 7");
        E.no(9, "keep", "0 7", "5 7", "5 0");
        E.no(2, "learn", "6 0", "0 8");
        E.no(2, "word", "8 0", "8 5");
        E.no(2, "person", "6 0", "6 5");
        E.no(2, "strand", "6 0 0", "0 8 0", "6 8 2");
        E.no(2, "dinner", "6 0", "6 3");
        E.no(5, "round", "64", "65", "-64");
        E.no(8, "round", "1", "63", "33");
        E.no(5, "lengthOf", "256 0", "-256 0");
        E.no(5, "daysFor", "256 0", "-256 0");
        E.no(8, "daysFor", "255 7129", "128 892");
        E.no(4, "read", "3 60");
        E.no(4, "write", "3 60 1");
        E.no(5, "tray", "3 3 61");
        E.no(4, "pour", "3 0 3 0 61", "3 1 3 0 60", "3 0 3 1 60");
        for (String call : new String[] {"unsaid", "sure", "ask"}) {
            E.no(5, call, "3 21", "3 30");
            E.no(4, call, "3 31");
        }
        E.no(5, "plaits", "255 3 21", "255 3 30", "256 3 20");
        E.no(4, "plaits", "255 3 31", "256 3 31");
        E.no(8, "plaitAt", "255 3 20 0", "254 3 20 7");
    }

    /** DAYS beyond 9,999, and numbers of DAYS that can't be, which come first. */
    private static void late() {
        E.on(() -> atDay(9999));
        E.no(7, "day", "1", "2", "99");
        E.no(5, "day", "0", "100", "-1", "min", "max");
        E.on(() -> atDay(9998));
        E.no(7, "day", "2", "99");
        C.due("many(6) behind day(1)", E.does(0, "day", "1").many(6), 9999);
        E.on(() -> atDay(9901));
        E.no(7, "day", "99");
        C.due("many(6) behind day(98)", E.does(0, "day", "98").many(6), 9999);
    }

    /** 8: there is none; 9: nobody KNOWS anything. */
    private static void none() {
        E.on(RefusedTest::nothingKnown);
        E.no(8, "strand", "0 0 0", "1 1 1");
        E.no(5, "strand", "0 0 2", "0 0 -1");
        E.no(8, "longest", "0", "1");
        E.no(9, "say", "0 0 1", "1 1 0", "0 0 0");
        E.no(9, "keep", "0 0", "1 1");
        E.no(9, "cut", "0 0", "1 0", "1 1");
        E.no(8, "cancel", "");
        E.no(2, "dinner", "0 0");
        E.no(8, "out", "0", "1");
        E.no(8, "learnsIn", "0 0", "1 1");
        E.no(8, "wildIn", "0", "1");
        E.no(8, "dinesIn", "0", "1");
        E.no(8, "rumour", "0 0", "1 1");
        E.no(8, "moveOf", "0 1 1", "1 0 3");
        E.no(8, "live", "0", "9999");
        E.no(5, "live", "-1", "10000");
        E.no(8, "lived", "0", "1", "2", "3", "4");
        E.no(5, "lived", "-1", "5");
        E.no(8, "mean", "0 1", "0 20", "9999 1", "9980 20");
        E.no(5, "mean", "0 0", "0 21", "9999 2");
        E.no(8, "back", "");
        HairProvince x = new HairProvince();
        x.province(Check.feed(x, "person p;person q barber;"));
        C.fails(x, "riskiest() without WORDS", x.riskiest(), 8);
    }
}
