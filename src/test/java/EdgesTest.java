/**
 * The last values that are still taken and the first that are not, the empty and the full, and numbers that wrap
 * around, promise by promise. RefusedTest has what is refused; here is what a call still takes, and that questions
 * change nothing.
 */
public final class EdgesTest {
    private static final Check C = new Check("EdgesTest");
    private static final Edge E = new Edge(C);

    public static void main(String[] args) {
        cutToTheirSort();
        trays();
        poured();
        tape();
        questionsOfAll();
        questionsAhead();
        questionsUnsaid();
        questionsOfRounds();
        questionsOfTwo();
        questionsOfYears();
        fullOnes();
        deeds();
        C.end();
    }

    private static void cut(int sort, long v, long due) {
        HairProvince x = new HairProvince();
        x.tray(sort, sort, 3);
        C.gives(x, "write of " + v, x.write(sort, 1, v));
        C.gives(x, "read of " + v + " cut to sort " + sort, x.read(sort, 1), due);
        C.gives(x, "read ahead of it", x.read(sort, 0), 0);
        C.gives(x, "read behind it", x.read(sort, 2), 0);
    }

    /** Promise 6: what wraps around, and what just does not. */
    private static void cutToTheirSort() {
        long[][] due = {
            {0, 127, 127}, {0, 128, -128}, {0, 255, -1}, {0, 256, 0}, {0, -128, -128}, {0, -129, 127}, {0, -256, 0},
            {1, 32767, 32767}, {1, 32768, -32768}, {1, 65535, -1}, {1, 65536, 0}, {1, -32768, -32768}, {1, -32769, 32767},
            {2, 2147483647L, 2147483647L}, {2, 2147483648L, -2147483648L}, {2, 4294967295L, -1}, {2, 4294967296L, 0},
            {2, -2147483648L, -2147483648L}, {2, -2147483649L, 2147483647L}, {3, Long.MAX_VALUE, Long.MAX_VALUE},
            {3, Long.MIN_VALUE, Long.MIN_VALUE}, {3, -1, -1}, {0, Long.MAX_VALUE, -1}, {0, Long.MIN_VALUE, 0},
            {1, Long.MAX_VALUE, -1}, {1, Long.MIN_VALUE, 0}, {2, Long.MAX_VALUE, -1}, {2, Long.MIN_VALUE, 0},
            {0, -1, -1}, {1, -1, -1}, {2, -1, -1}, {0, 0, 0}};
        for (long[] d : due) {
            cut((int) d[0], d[1], d[2]);
        }
    }

    /** Promises 5 and 7: TRAYS 0 and 3, sorts 0 and 3, of 0 and of 60 numbers, made anew. */
    private static void trays() {
        E.on(RefusedTest::rich);
        for (int tray = 0; tray < 4; tray++) {
            for (int sort = 0; sort < 4; sort++) {
                HairProvince x = E.does(1, "tray", tray + " " + sort + " 60");
                for (int i = 0; i < 60; i++) {
                    C.gives(x, "read(" + tray + ", " + i + ") of a new one", x.read(tray, i), 0);
                }
                C.fails(x, "read(" + tray + ", 60)", x.read(tray, 60), 4);
                C.gives(x, "write(" + tray + ", 59)", x.write(tray, 59, -2));
                C.gives(x, "read(" + tray + ", 59)", x.read(tray, 59), -2);
                C.fails(x, "write(" + tray + ", 60)", x.write(tray, 60, 1), 4);
                C.gives(x, "tray(" + tray + ", " + sort + ", 1)", x.tray(tray, sort, 1));
                C.fails(x, "read(" + tray + ", 1)", x.read(tray, 1), 4);
                C.gives(x, "tray(" + tray + ", " + sort + ", 60)", x.tray(tray, sort, 60));
                C.gives(x, "read(" + tray + ", 59), 0 again", x.read(tray, 59), 0);
                C.gives(x, "tray(" + tray + ", " + sort + ", 0)", x.tray(tray, sort, 0));
                C.fails(x, "read(" + tray + ", 0) of an empty one", x.read(tray, 0), 4);
                C.fails(x, "write(" + tray + ", 0) of an empty one", x.write(tray, 0, 1), 4);
            }
        }
        // A TRAY made does nothing to the others.
        HairProvince x = E.does(1, "tray", "1 3 60");
        C.gives(x, "read(0, 5) as it was", x.read(0, 5), 1000);
        C.fails(x, "read(2, 0) as it was", x.read(2, 0), 4);
        C.fails(x, "read(3, 0) as it was", x.read(3, 0), 3);
        C.gives(x, "read(0, 4): -1 is no NONE", x.read(0, 4), -1);
    }

    /** Promise 8: none, all, over themselves either way, to a row's very end. */
    private static void poured() {
        for (int from = 0; from <= 4; from++) {
            for (int to = 0; to <= 4; to++) {
                for (int many = 0; many <= 4; many++) {
                    pour(from, to, many, true);
                    pour(from, to, many, false);
                }
            }
        }
        HairProvince x = new HairProvince();
        x.tray(0, 1, 60);
        x.tray(3, 1, 60);
        for (int i = 0; i < 60; i++) {
            x.write(0, i, 1000 + i);
        }
        C.gives(x, "pour of all 60", x.pour(0, 0, 3, 0, 60));
        for (int i = 0; i < 60; i++) {
            C.gives(x, "read(3, " + i + ") poured", x.read(3, i), 1000 + i);
        }
        C.gives(x, "pour of the last", x.pour(3, 59, 0, 0, 1));
        C.gives(x, "read(0, 0) poured", x.read(0, 0), 1059);
        C.gives(x, "pour to the last", x.pour(3, 0, 0, 59, 1));
        C.gives(x, "read(0, 59) poured", x.read(0, 59), 1000);
        C.gives(x, "pour of an empty row to itself", x.tray(1, 2, 0) && x.pour(1, 0, 1, 0, 0));
    }

    private static void pour(int from, int to, int many, boolean same) {
        HairProvince x = new HairProvince();
        Check.fill(x, 0, 10, 11, 12, 13);
        Check.fill(x, 1, 20, 21, 22, 23);
        int other = same ? 0 : 1;
        String call = "pour(0, " + from + ", " + other + ", " + to + ", " + many + ")";
        boolean can = from + many <= 4 && to + many <= 4;
        C.due(call, x.pour(0, from, other, to, many), can);
        C.due(call + ", its STATUS", x.status(), can ? 0 : 4);
        for (int i = 0; i < 4; i++) {
            boolean poured = can && i >= to && i < to + many;
            C.gives(x, call + ", then read of " + i, x.read(other, i), poured ? 10 + from + i - to : (same ? 10 : 20) + i);
        }
    }

    /** Promises 9 to 11: an empty tape and one of 900 bytes. */
    private static void tape() {
        HairProvince x = new HairProvince();
        C.gives(x, "province(0) of nothing", x.province(0), 0);
        C.gives(x, "years(0) of nothing", x.years(0), 0);
        C.due("feed of high bytes", x.feed(-1, 0x80818283, Integer.MIN_VALUE, Integer.MAX_VALUE, 0), 20);
        C.fails(x, "province of high bytes", x.province(20), 10);
        C.due("a byte of 255 is no TOKEN", x.fault(0), 1);
        C.due("at its place", x.fault(1), 0);
        for (int i = 1; i <= 45; i++) {
            C.due("feed " + i, x.feed(0x20202020, 0x20202020, 0x20202020, 0x20202020, i == 45 ? 0x2020203b : 0x20202020),
                20 * i);
        }
        C.due("feed of a 46th", x.feed(0, 0, 0, 0, 0), -1);
        C.fails(x, "years(301) of 900 bytes", x.years(301), 5);
        C.fails(x, "province(900): its last byte is a ;", x.province(900), 10);
        C.due("the FAULT", x.fault(0), 2);
        C.due("its place, the last", x.fault(1), 899);
        C.due("feed on an empty tape", x.feed(0, 0, 0, 0, 0), 20);
        // A part of the tape is the text, and all of it is gone.
        HairProvince y = new HairProvince();
        Check.feed(y, "word a;" + " ".repeat(892) + "!");
        C.gives(y, "province(899), without the last byte", y.province(899), 0);
        C.gives(y, "many(0)", y.many(0), 1);
        C.fails(y, "province(1): all of it is gone", y.province(1), 5);
        HairProvince z = new HairProvince();
        Check.feed(z, "any;" + " ".repeat(295) + ";!" + " ".repeat(599));
        C.gives(z, "years(299)", z.years(299), 1);
        C.fails(z, "years(1): all of it is gone", z.years(1), 5);
        Check.feed(z, "any;" + " ".repeat(295) + ";!" + " ".repeat(599));
        C.fails(z, "years(300): its last byte is a ;", z.years(300), 10);
        C.due("the FAULT", z.fault(0), 2);
        C.due("its place, the last", z.fault(1), 299);
        Check.feed(z, "any;" + " ".repeat(296) + "!" + " ".repeat(599));
        C.gives(z, "years(300), without what is behind", z.years(300), 1);
        C.gives(z, "live(0) by these", z.live(0), 1);
    }

    /** Promises 13 to 19: the first and the last of each kind, of what there is. */
    private static void questionsOfAll() {
        E.on(RefusedTest::rich);
        int[] many = {4, 4, 3, 2, 3, 4, 1, 10, 0, 0, 7};
        for (int what = 0; what <= 10; what++) {
            E.gives(many[what], "many", "" + what);
        }
        int[] first = {2, 5, 3, 1, 4};
        int[] last = {1, 99, 8, 8, 2};
        for (int what = 0; what <= 4; what++) {
            E.gives(first[what], "word", "0 " + what);
            E.gives(last[what], "word", "3 " + what);
        }
        int[] ann = {6, 0, 3, 3, 3};
        int[] dot = {50, 1, 8, 8, 1};
        for (int what = 0; what <= 4; what++) {
            E.gives(ann[what], "person", "0 " + what);
            E.gives(dot[what], "person", "3 " + what);
        }
        E.gives(2, "strand", "0 0 0");
        E.gives(1, "strand", "0 0 1", "0 1 0", "0 1 1", "3 3 0", "3 3 1", "2 2 1");
        E.gives(3, "strand", "2 2 0");
        int[] dinner = {0, 1, 3, 2, 3, 5};
        for (int what = 0; what <= 2; what++) {
            E.gives(dinner[what], "dinner", "0 " + what);
            E.gives(dinner[3 + what], "dinner", "2 " + what);
        }
        E.gives(0, "longest", "0");
        E.gives(3, "longest", "3");
        HairProvince x = E.does(4, "copyHair", "0");
        long[] row = {3, 0, 3, 1, -1, 1000};
        for (int i = 0; i < 6; i++) {
            C.gives(x, "read(0, " + i + ") behind copyHair", x.read(0, i), row[i]);
        }
        justRoom();
    }

    private static void justRoom() {
        HairProvince x = RefusedTest.rich();
        x.tray(3, 0, 3);
        C.fails(x, "copyHair(3), one place too few", x.copyHair(3), 4);
        C.gives(x, "read(3, 0) as it was", x.read(3, 0), 0);
        x.tray(3, 0, 4);
        C.gives(x, "copyHair(3), just room", x.copyHair(3), 4);
        C.gives(x, "read(3, 3)", x.read(3, 3), 1);
        // HAIR of 128 in 8 bits wraps around.
        HairProvince y = C.land("word a grows 8 grey 99;person p temper 999 keeps a;");
        y.tray(0, 0, 1);
        y.day(15);
        y.copyHair(0);
        C.gives(y, "read(0, 0), 120", y.read(0, 0), 120);
        y.day(1);
        y.copyHair(0);
        C.gives(y, "read(0, 0), 128 cut", y.read(0, 0), -128);
    }

    /** Promises 30 to 37: 0 and 200 DAYS ahead. */
    private static void questionsAhead() {
        E.on(RefusedTest::rich);
        E.gives(3, "hairIn", "0 0", "2 0");
        E.gives(0, "hairIn", "1 0", "1 200", "3 200", "2 1");
        E.gives(6, "hairIn", "0 1");
        E.gives(1, "knownIn", "1 0");
        E.gives(5, "knownIn", "1 1");
        E.gives(8, "knownIn", "3 0", "3 3");
        E.gives(12 + 2, "knownIn", "2 200");
        E.gives(1, "out", "2");
        E.gives(0, "learnsIn", "0 0", "1 0", "2 1");
        E.gives(1, "learnsIn", "1 2");
        E.gives(2, "dinesIn", "0");
        E.gives(1, "dinesIn", "1", "2");
        E.gives(4, "dinesIn", "3");
        E.gives(3, "quiet", "0 0", "0 1");
        E.gives(3, "quietHair", "0 0");
        E.gives(6, "quietHair", "0 1");
        E.gives(0, "quiet", "1 0", "1 200", "2 200");
        E.gives(0, "quietHair", "1 0", "1 200", "2 200");
        E.gives(0, "quiet", "3 200");
        E.gives(4, "quiet", "2 0");
        // Twelve DAYS of debt at a temper of 12: just not above it, now and in 200 DAYS.
        HairProvince x = C.land("word a grows 3 grey 4;person p temper 12 keeps a;");
        C.gives(x, "quiet(0, 200), 12 is not above 12", x.quiet(0, 200), 1);
        C.fails(x, "wildIn(0), 12 is not above 12", x.wildIn(0), 8);
        x.train(0, 11);
        C.gives(x, "quiet(0, 200), 12 is above 11", x.quiet(0, 200), 0);
        C.gives(x, "quiet(0, 3), 9 is not", x.quiet(0, 3), 1);
        C.gives(x, "wildIn(0)", x.wildIn(0), 4);
        x.train(0, 0);
        C.gives(x, "quiet(0, 0), 0 is not above 0", x.quiet(0, 0), 1);
        C.gives(x, "wildIn(0)", x.wildIn(0), 1);
        everyDays();
    }

    /** The next DINNER is in 1 to EVERY DAYS, on its own DAY in as many. */
    private static void everyDays() {
        for (int every : new int[] {1, 2, 29, 30}) {
            HairProvince x = C.land("person p;person q;dinner p q every " + every + ";");
            for (int day = 0; day <= 61; day++) {
                C.gives(x, "dinesIn(1) on DAY " + day + ", every " + every, x.dinesIn(1), every - day % every);
                x.day(1);
            }
        }
    }

    /** Promises 38 to 42: no twos and twenty, sets of nothing and of all, 0 and 999 DAYS. */
    private static void questionsUnsaid() {
        E.on(RefusedTest::rich);
        E.gives(16, "unsaid", "0 0", "1 0", "2 0");
        E.gives(0, "sure", "0 0", "2 0");
        E.gives(31, "ask", "0 1");
        E.gives(3, "unsaid", "0 1");
        E.gives(2, "unsaid", "0 2");
        E.gives(1, "sure", "0 2");
        E.gives(0, "lengthOf", "0 0", "0 999", "15 0");
        E.gives(151, "lengthOf", "15 999", "15 99");
        E.gives(150, "lengthOf", "15 98");
        E.gives(0, "daysFor", "0 0", "15 0");
        E.gives(1, "daysFor", "15 1", "15 7");
        E.gives(2, "daysFor", "15 8");
        E.gives(99, "daysFor", "15 151", "8 99");
        E.gives(98, "daysFor", "15 150");
        HairProvince x = RefusedTest.rich();
        for (int days : new int[] {0, 999}) {
            Check.fill(x, 3, days, x.lengthOf(9, days), 0, 0);
            C.gives(x, "unsaid by " + days + " DAYS", x.unsaid(3, 2), days == 0 ? 16 : 1);
        }
        C.gives(x, "sure by 999 DAYS", x.sure(3, 2), 9);
        Check.fill(x, 3, 1000, 0);
        C.fails(x, "unsaid by 1,000 DAYS", x.unsaid(3, 1), 5);
        Check.fill(x, 3, -1, 0);
        C.fails(x, "unsaid by -1 DAYS", x.unsaid(3, 1), 5);
        Check.fill(x, 3, 0, -1);
        C.fails(x, "unsaid of -1 long", x.unsaid(3, 1), 5);
        Check.fill(x, 3, 1, Long.MAX_VALUE);
        C.gives(x, "unsaid of as long as can be", x.unsaid(3, 1), 0);
        Check.fill(x, 3, 1L << 32, 0);
        C.fails(x, "unsaid by DAYS that wrap around to 0", x.unsaid(3, 1), 5);
        Check.fill(x, 3, 1, (1L << 32) + 7);
        C.gives(x, "unsaid of a length that wraps around to 7", x.unsaid(3, 1), 0);
        Check.fill(x, 3, Long.MIN_VALUE, Long.MIN_VALUE);
        C.fails(x, "unsaid of the least", x.unsaid(3, 1), 5);
        badFirst(x);
        asked(new int[] {8}, new int[] {8});
        asked(new int[] {8, 8}, new int[] {8, 16});
        asked(new int[] {2, 1}, new int[] {98, 99});
        asked(new int[] {1, 1}, new int[] {99, 99});
        asked(new int[] {4, 4, 8, 1}, new int[] {16, 32, 24, 99});
        asked(new int[] {9, 9, 9, 9, 9, 9, 9, 9}, new int[] {99, 99, 99, 99, 99, 99, 99, 98});
        asked(new int[] {1, 2, 3, 4, 5, 6, 7, 8}, new int[] {64, 32, 21, 16, 13, 11, 9, 8});
        asked(new int[] {9, 8, 7, 6, 5, 4, 3, 2}, new int[] {99, 97, 95, 93, 91, 89, 87, 85});
        asked(new int[] {1, 1, 1, 1, 1, 1, 1, 1}, new int[] {1, 2, 4, 8, 16, 32, 64, 99});
    }

    /** ASK of all sets, held against all lengths that there are on each of 99 DAYS. */
    private static void asked(int[] grows, int[] greys) {
        StringBuilder text = new StringBuilder();
        for (int w = 0; w < grows.length; w++) {
            text.append("word ").append("abcdefgh".charAt(w)).append(" grows ").append(grows[w]).append(" grey ")
                .append(greys[w]).append(";");
        }
        int due = 0;
        int most = 0;
        for (int day = 1; day <= 99; day++) {
            java.util.Set<Integer> lengths = new java.util.HashSet<>();
            for (int set = 0; set < 1 << grows.length; set++) {
                int length = 0;
                for (int w = 0; w < grows.length; w++) {
                    length += (set >> w & 1) * grows[w] * Math.min(day, greys[w]);
                }
                lengths.add(length);
            }
            due = lengths.size() > most ? day : due;
            most = Math.max(most, lengths.size());
        }
        HairProvince x = C.land(text.toString());
        x.tray(0, 0, 0);
        C.gives(x, "ask(0, 0) of " + text, x.ask(0, 0), due);
        C.gives(x, "ask(0, 0) again of " + text, x.ask(0, 0), due);
    }

    /** One two of 20 that is bad, wherever it stands. */
    private static void badFirst(HairProvince x) {
        x.tray(3, 3, 40);
        C.gives(x, "unsaid(3, 20) of just 40 numbers", x.unsaid(3, 20), 16);
        for (int i = 0; i < 40; i++) {
            x.write(3, i, i % 2 == 0 ? 1000 : -1);
            C.fails(x, "unsaid(3, 20), bad at " + i, x.unsaid(3, 20), 5);
            C.gives(x, "unsaid(3, n) ahead of it", x.unsaid(3, i / 2), 16);
            x.write(3, i, 0);
        }
        x.tray(3, 3, 39);
        C.fails(x, "unsaid(3, 20) of 39 numbers", x.unsaid(3, 20), 4);
        C.gives(x, "unsaid(3, 19) of 39 numbers", x.unsaid(3, 19), 16);
        x.tray(3, 3, 42);
        C.fails(x, "unsaid(3, 21) of 42 numbers", x.unsaid(3, 21), 5);
        x.tray(3, 3, 41);
        C.fails(x, "unsaid(3, 21) of 41 numbers", x.unsaid(3, 21), 4);
    }

    /** Promises 43 to 48: nobody and all, no WORDS and all, the first place and the last. */
    private static void questionsOfRounds() {
        E.on(RefusedTest::rich);
        E.gives(0, "round", "0");
        E.gives(1, "round", "1", "8", "14");
        E.gives(2, "round", "15", "5", "9");
        E.gives(14, "oneRound", "");
        E.gives(24, "plaits", "15 2 0", "15 1 0", "15 0 0");
        E.gives(12, "plaits", "15 1 1");
        E.gives(1, "plaits", "0 1 1", "0 2 0", "1 1 1", "2 1 1", "8 1 1");
        E.gives(1, "plaitAt", "15 1 1 0", "3 1 1 0", "2 2 0 0");
        E.gives(3, "plaitAt", "15 1 1 3", "8 2 0 0");
        E.gives(0, "plaitAt", "15 1 1 1", "15 2 0 0");
        E.gives(1, "tellers", "0 1");
        E.gives(2, "tellers", "0 0", "0 2");
        E.gives(0, "tellers", "0 3", "3 0");
        E.gives(0, "rumour", "0 0", "0 1", "3 3");
        E.gives(1, "rumour", "0 2", "3 2");
        E.gives(2, "rumour", "0 3", "3 1");
        E.gives(3, "rumour", "3 0");
        HairProvince x = C.land("word a;person p keeps a;");
        C.gives(x, "oneRound() of one", x.oneRound(), 1);
        C.gives(x, "round(1) of one", x.round(1), 1);
        C.fails(x, "round(2) of one", x.round(2), 5);
        HairProvince y = C.land("word a;word b;halves a b;person p keeps a b;person q keeps a;");
        C.fails(y, "round(1): the first KEEPS both", y.round(1), 8);
        C.fails(y, "round(3): the first KEEPS both", y.round(3), 8);
        C.gives(y, "round(2)", y.round(2), 1);
        C.gives(y, "oneRound()", y.oneRound(), 2);
        badPlaits();
    }

    /** The first WORD and the last in twos, one bad two of 20, and that nothing is left of the call ahead. */
    private static void badPlaits() {
        HairProvince x = C.land("word a;word b;word c;word d;word e;word f;word g;word h;");
        Check.fill(x, 0, 7, 0);
        Check.fill(x, 1, 0, 7);
        C.gives(x, "plaits(255), h ahead of a", x.plaits(255, 0, 1), 20160);
        C.gives(x, "plaitAt(255), its last", x.plaitAt(255, 0, 1, 7), 0);
        C.gives(x, "plaits(255), all of them", x.plaits(255, 0, 0), 40320);
        C.gives(x, "plaitAt(255), its first", x.plaitAt(255, 0, 0, 0), 0);
        C.gives(x, "plaits(129), a ahead of h", x.plaits(129, 1, 1), 1);
        C.gives(x, "plaitAt(129), its last", x.plaitAt(129, 1, 1, 1), 7);
        C.fails(x, "plaitAt(129), one place further", x.plaitAt(129, 1, 1, 2), 8);
        C.gives(x, "plaitAt(129), h ahead of a", x.plaitAt(129, 0, 1, 0), 7);
        x.tray(3, 3, 40);
        for (int i = 0; i < 40; i++) {
            for (long bad : new long[] {-1, 8}) {
                x.write(3, i, bad);
                C.fails(x, "plaits(254, 3, 20), bad at " + i, x.plaits(254, 3, 20), 5);
                C.gives(x, "plaits(6, 3, n) ahead of it", x.plaits(6, 3, i / 2), 2);
            }
            x.write(3, i, 0);
        }
    }

    /** Promises 49 to 52: no turn and three, no DAY and two. */
    private static void questionsOfTwo() {
        E.on(RefusedTest::rich);
        E.gives(0, "game", "0 2 0", "2 0 0");
        E.gives(-3, "game", "2 1 0");
        E.gives(2, "game", "3 2 0");
        E.gives(-2, "game", "2 3 0");
        E.gives(0, "moveOf", "0 3 1");
        E.gives(3, "moveOf", "3 0 1");
        E.gives(2, "moveOf", "2 0 3");
        E.tells(1, 1, "safe", "0 0", "3 0");
        E.tells(3, 4, "safe", "0 1", "3 1");
        E.tells(9, 16, "safe", "0 2", "3 2");
        E.gives(0, "riskiest", "");
        // -1 as an answer, with STATUS 0.
        HairProvince x = C.land("word a;person p keeps a;person q;");
        x.day(1);
        C.gives(x, "game(0, 1, 0)", x.game(0, 1, 0), -1);
        C.gives(x, "game(1, 0, 0)", x.game(1, 0, 0), 1);
    }

    /** Promises 53 to 55: seeds 0 and 9,999, one life and twenty. */
    private static void questionsOfYears() {
        E.on(RefusedTest::rich);
        for (int what = 0; what < 5; what++) {
            HairProvince x = RefusedTest.rich();
            E.gives(x.lived(what), "lived", "" + what);
        }
        for (int seed : new int[] {0, 1, 5000, 9999}) {
            HairProvince x = RefusedTest.rich();
            C.gives(x, "live(" + seed + ")", x.live(seed), 4);
            E.tells(x.many(10), 1, "mean", seed + " 1");
        }
        HairProvince x = RefusedTest.rich();
        C.gives(x, "mean(9980, 20)", x.mean(9980, 20));
        C.gives(x, "mean(0, 20)", x.mean(0, 20));
        for (int seed : new int[] {0, 1, 2, 3, 777, 9998, 9999}) {
            drawn(seed, 2, 1, 2);
            drawn(seed, 3, 8, 4);
            drawn(seed, 6, 7, 5);
        }
    }

    /** Who says what by an any: PEOPLE of whom each KEEPS all WORDS but the last, who KNOWS none. */
    private static void drawn(int seed, int people, int words, int times) {
        String names = "abcdefgh";
        StringBuilder text = new StringBuilder();
        for (int w = 0; w < words; w++) {
            text.append("word ").append(names.charAt(w)).append(";");
        }
        for (int p = 0; p < people; p++) {
            text.append("person p").append(names.charAt(p)).append(p < people - 1 ? " keeps" : "");
            for (int w = 0; w < words && p < people - 1; w++) {
                text.append(' ').append(names.charAt(w));
            }
            text.append(";");
        }
        HairProvince x = C.land(text.toString());
        C.years(x, "any;".repeat(times), times);
        int known = 0;
        int said = 0;
        int[] kept = new int[people];
        java.util.Arrays.fill(kept, 0, people - 1, (1 << words) - 1);
        long s = seed;
        for (int i = 0; i < times; i++) {
            int[] draws = new int[3];
            for (int k = 0; k < 3; k++) {
                s = (s * 2971 + 10789) % 65536;
                draws[k] = (int) (s / 8 % (k == 1 ? words : people));
            }
            if (draws[2] == people - 1 && (kept[draws[0]] & ~known & 1 << draws[1]) != 0) {
                kept[draws[0]] &= ~(1 << draws[1]);
                known |= 1 << draws[1];
                said++;
            }
        }
        C.gives(x, "live(" + seed + ") of " + text, x.live(seed), times);
        C.gives(x, "lived(0) by seed " + seed, x.lived(0), times - said);
        C.gives(x, "lived(2) by seed " + seed, x.lived(2), said);
        for (int p = 0; p < people; p++) {
            C.gives(x, "person(" + p + ", 3) by seed " + seed, x.person(p, 3), kept[p]);
        }
        C.gives(x, "what the last KNOWS by seed " + seed, x.person(people - 1, 2), known);
    }

    /** Where all is there that can be. */
    private static void fullOnes() {
        E.on(RefusedTest::fullOne);
        int[] many = {8, 6, 6, 6, 99, 16, 0, 63, 0, 0, 0};
        for (int what = 0; what <= 10; what++) {
            E.gives(many[what], "many", "" + what);
        }
        E.gives(9, "word", "7 0");
        E.gives(99, "word", "7 1");
        E.gives(33, "word", "7 2", "7 3");
        E.gives(2, "word", "0 4");
        E.gives(0, "word", "7 4");
        E.gives(128, "person", "5 2", "5 3");
        E.gives(999, "person", "0 0");
        E.gives(255, "person", "0 3");
        E.gives(0, "strand", "0 7 0", "5 7 1");
        E.gives(30, "dinner", "5 2");
        E.gives(0, "hairIn", "0 0", "4 200");
        // 72 a DAY; on DAY 30 p says a to q and b to u, and u says h to t.
        E.gives(29 * 72, "hairIn", "0 29");
        E.gives(30 * 72 - 2 * 270, "hairIn", "0 30");
        E.gives(1, "knownIn", "1 30");
        E.gives(128 + 2, "knownIn", "5 30");
        E.gives(128, "knownIn", "5 29", "4 30");
        E.gives(14, "wildIn", "0");
        E.gives(30, "dinesIn", "0", "5");
        E.gives(255, "quiet", "0 0", "0 13");
        E.gives(127, "quiet", "0 14");
        E.gives(1, "quiet", "0 200");
        E.gives(891, "quietHair", "0 200");
        E.gives(13 * 72, "quietHair", "0 13");
        E.gives(14 * 63, "quietHair", "0 14");
        E.gives(256, "unsaid", "3 0", "3 20");
        E.gives(0, "sure", "3 0", "3 20");
        E.gives(1, "ask", "3 0", "3 20");
        E.gives(7128, "lengthOf", "255 99", "255 999");
        E.gives(7056, "lengthOf", "255 98");
        E.gives(99, "daysFor", "255 7128", "255 7057");
        E.gives(98, "daysFor", "255 7056");
        E.gives(62, "oneRound", "");
        E.gives(1, "round", "62", "32");
        E.gives(40320, "plaits", "255 3 0");
        E.gives(0, "plaits", "255 3 20");
        E.gives(5040, "plaits", "254 3 20");
        E.gives(7, "plaitAt", "254 3 20 6", "255 3 0 7");
        E.gives(32, "tellers", "7 0");
        E.gives(3, "rumour", "0 3");
        E.gives(2, "rumour", "7 3");
        E.tells(0, 1, "safe", "0 1", "7 2");
        E.tells(1, 1, "safe", "0 0");
        E.gives(0, "riskiest", "");
        HairProvince x = E.does(0, "province", "900");
        C.gives(x, "many(0) behind province(900)", x.many(0), 1);
        x = E.does(30, "live", "9999");
        C.gives(x, "lived(4): 30 STEPS are not too many", x.lived(4), 0);
        E.does(2, "back", "");
        x = E.does(5, "cancel", "");
        C.gives(x, "invite() in the place that is left", x.invite(0, 1, 30), 5);
    }

    /** Promises 20 to 29 and 56: the least and the most that is taken. */
    private static void deeds() {
        E.on(RefusedTest::rich);
        HairProvince x = E.does(1, "day", "1");
        C.gives(x, "many(6) behind day(1)", x.many(6), 2);
        x = E.does(3, "day", "99");
        C.gives(x, "many(6) behind day(99)", x.many(6), 100);
        C.gives(x, "many(8) behind day(99)", x.many(8), 3);
        x = E.does(1, "say", "0 0 3");
        C.gives(x, "person(3, 2) behind say", x.person(3, 2), 9);
        x = E.does(1, "keep", "1 0");
        C.gives(x, "strand(1, 0, 1) behind keep", x.strand(1, 0, 1), 0);
        E.does(3, "learn", "3 0");
        for (int temper : new int[] {0, 999}) {
            x = E.does(1, "train", "3 " + temper);
            C.gives(x, "person(3, 0)", x.person(3, 0), temper);
        }
        x = E.does(1, "trade", "0 true");
        C.gives(x, "many(7)", x.many(7), 11);
        x = E.does(1, "trade", "3 false");
        C.gives(x, "many(7)", x.many(7), 2);
        for (int[] rule : new int[][] {{4, 0}, {4, 99}, {5, 0}, {5, 16}}) {
            x = E.does(1, "rule", rule[0] + " " + rule[1]);
            C.gives(x, "many(" + rule[0] + ")", x.many(rule[0]), rule[1]);
            C.gives(x, "the other rule", x.many(9 - rule[0]), 8 - rule[0]);
        }
        for (int every : new int[] {1, 30}) {
            x = E.does(3, "invite", "3 0 " + every);
            C.gives(x, "dinner(3, 2)", x.dinner(3, 2), every);
        }
        x = E.does(2, "cancel", "");
        C.fails(x, "dinner(2, 0)", x.dinner(2, 0), 2);
        x = E.does(3, "mark", "");
        C.fails(x, "mark(), a fourth", x.mark(), 7);
        x = E.does(1, "back", "");
        C.gives(x, "back()", x.back(), 0);
        C.fails(x, "back(), no MARK being left", x.back(), 8);
        strandsOfOthers();
        grey();
        heard();
        tempers();
        tests();
        manyEnds();
    }

    /** What is 0 long and 0 DAYS old, with who is not the first. */
    private static void strandsOfOthers() {
        HairProvince x = C.land("word a;word b grows 2;person p;person q barber keeps a b;person r barber;"
            + "person s temper 8 keeps a b;");
        x.day(4);
        C.gives(x, "longest(1)", x.longest(1), 1);
        C.gives(x, "longest(3)", x.longest(3), 1);
        C.gives(x, "quiet(3, 0)", x.quiet(3, 0), 2);
        C.gives(x, "quietHair(3, 0)", x.quietHair(3, 0), 8);
        C.gives(x, "say(1, 1, 0)", x.say(1, 1, 0), 4);
        C.gives(x, "keep(1, 1)", x.keep(1, 1), 2);
        C.gives(x, "strand(1, 1, 0) anew", x.strand(1, 1, 0), 0);
        C.gives(x, "strand(1, 1, 1) anew", x.strand(1, 1, 1), 0);
        C.gives(x, "strand(1, 0, 1)", x.strand(1, 0, 1), 4);
        C.gives(x, "longest(1)", x.longest(1), 0);
        C.gives(x, "cut(3, 2)", x.cut(3, 2), 3);
        for (int w = 0; w < 2; w++) {
            C.gives(x, "strand(3, " + w + ", 0), cut", x.strand(3, w, 0), 0);
            C.gives(x, "strand(3, " + w + ", 1), cut", x.strand(3, w, 1), 4);
            C.gives(x, "strand(2, " + w + ", 0), heard", x.strand(2, w, 0), 0);
            C.gives(x, "strand(2, " + w + ", 1), heard", x.strand(2, w, 1), 0);
        }
        C.gives(x, "strand(1, 0, 0), not cut", x.strand(1, 0, 0), 4);
        // A new PROVINCE has no old STRANDS, though those ahead were long, and longer in DAYS ahead.
        C.gives(x, "hairIn(3, 9)", x.hairIn(3, 9), 27);
        C.province(x, "word a;word b;person p keeps a b;person q keeps a b;person r keeps b;person s keeps a b;");
        for (int p = 0; p < 4; p++) {
            C.gives(x, "strand(" + p + ", 1, 0) of a new PROVINCE", x.strand(p, 1, 0), 0);
            C.gives(x, "strand(" + p + ", 1, 1) of a new PROVINCE", x.strand(p, 1, 1), 0);
        }
    }

    /** A STRAND grows while it is fewer DAYS old than GREY: on the last of these, not on the next. */
    private static void grey() {
        for (int grey : new int[] {1, 2, 30, 98, 99}) {
            HairProvince x = C.land("word a grows 9" + (grey == 30 ? "" : " grey " + grey) + ";person p temper 999 keeps a;");
            for (int day = 1; day <= 100; day++) {
                x.day(1);
                C.gives(x, "strand(0, 0, 0) of grey " + grey + " on DAY " + day, x.strand(0, 0, 0), 9 * Math.min(day, grey));
                C.gives(x, "strand(0, 0, 1) on DAY " + day, x.strand(0, 0, 1), day);
            }
        }
        HairProvince x = C.land("word a;person p keeps a;");
        for (int i = 0; i < 10; i++) {
            x.day(99);
        }
        x.day(8);
        C.gives(x, "strand(0, 0, 1), 998 DAYS old", x.strand(0, 0, 1), 998);
        for (int i = 0; i < 2; i++) {
            x.day(1);
            C.gives(x, "strand(0, 0, 1), 999 DAYS old", x.strand(0, 0, 1), 999);
        }
        C.gives(x, "many(6) is more", x.many(6), 1000);
    }

    /** HEARD long or more: just so long, and one less; HEARD 0 and 99. */
    private static void heard() {
        for (int heard : new int[] {0, 1, 3, 98, 99}) {
            for (int length = Math.max(0, heard - 1); length <= heard + 1; length++) {
                HairProvince x = C.land((heard == 3 ? "" : "heard " + heard + ";")
                    + "word a grows 1 grey 99;person p temper 999 keeps a;person q barber;");
                for (int i = 0; i < length; i++) {
                    x.day(1);
                }
                int due = Math.min(length, 99) >= heard ? 1 : 0;
                C.gives(x, "cut(0, 1) of " + length + ", HEARD " + heard, x.cut(0, 1), due);
                C.gives(x, "person(1, 2)", x.person(1, 2), due);
                C.gives(x, "person(1, 3)", x.person(1, 3), due);
                C.gives(x, "person(0, 4)", x.person(0, 4), 0);
                C.gives(x, "many(9)", x.many(9), 1);
            }
        }
    }

    /** HAIR above TEMPER: not as much; TEMPER 0 and 999, and 50 without. */
    private static void tempers() {
        for (int temper : new int[] {0, 1, 50, 98}) {
            HairProvince x = C.land("word a grey 99;person p" + (temper == 50 ? "" : " temper " + temper)
                + " keeps a;person q;dinner q p every 1;");
            for (int day = 1; day <= temper; day++) {
                C.gives(x, "day(1) to " + day + ", TEMPER " + temper, x.day(1), 0);
            }
            C.gives(x, "out(0)", x.out(0), 1);
            C.gives(x, "day(1) above " + temper, x.day(1), 1);
            C.gives(x, "person(1, 2)", x.person(1, 2), 1);
            C.gives(x, "person(1, 3)", x.person(1, 3), 0);
        }
        HairProvince x = C.land("word a grows 9 grey 99;word b grows 1 grey 99;word c grows 9 grey 1;"
            + "person p temper 999 keeps a b c;person q;dinner p q every 11;");
        // 891 and 99 and 9 make 999, which is not above it.
        C.gives(x, "day(99)", x.day(99), 0);
        C.gives(x, "person(0, 4)", x.person(0, 4), 999);
        C.gives(x, "day(99)", x.day(99), 0);
        x.train(0, 998);
        C.gives(x, "day(11)", x.day(11), 1);
        C.gives(x, "person(0, 3), the longest was said", x.person(0, 3), 6);
    }

    /** TESTS of HAIR less than, as much as and more than a NUMBER, from 0 to 9,999. */
    private static void tests() {
        String[] signs = {"<", "=", ">"};
        for (int hair = 0; hair <= 4; hair += 2) {
            for (int much : new int[] {0, 1, 2, 3, 4, 5, 9999}) {
                for (String sign : signs) {
                    HairProvince x = C.land("word a;person p;person q keeps a;");
                    C.years(x, "when hair q" + sign + much + ";day 7;end;", 2);
                    if (hair > 0) {
                        x.day(hair);
                    }
                    boolean holds = sign.equals(signs[1 + Integer.compare(hair, much)]);
                    C.gives(x, "live(0): " + hair + sign + much, x.live(0), holds ? 2 : 1);
                    C.gives(x, "lived(1): " + hair + sign + much, x.lived(1), holds ? 7 : 0);
                }
            }
        }
    }

    /** Ends are no STEPS: 300 STEPS with as many ends as can be behind them. */
    private static void manyEnds() {
        HairProvince x = C.land("word a;person p;");
        C.years(x, "loop 99;loop 99;when hair p=0;end;end;end;", 3);
        C.gives(x, "live(0), 2 and 98 ends each", x.live(0), 300);
        C.gives(x, "lived(4)", x.lived(4), 1);
        C.years(x, "loop 99;when hair p=0;when hair p=0;end;end;when hair p=0;end;end;", 4);
        C.gives(x, "live(0), three and four ends each", x.live(0), 298);
        C.gives(x, "lived(4)", x.lived(4), 0);
        C.years(x, "loop 99;when hair p>0;any;end;when hair p=0;loop 9;end;end;end;any;any;", 7);
        C.gives(x, "live(0), just 300", x.live(0), 300);
        C.gives(x, "lived(4)", x.lived(4), 0);
        C.gives(x, "lived(0)", x.lived(0), 2);
    }
}
