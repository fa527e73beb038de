/** Promises 53 to 57: YEARS, their draws, and MARKS. */
public final class YearsTest {
    private static final Check C = new Check("YearsTest");

    public static void main(String[] args) {
        steps();
        draws();
        blocks();
        threeHundred();
        beyondTheLastDay();
        livedStays();
        means();
        statuses();
        marks();
        marksKeepAll();
        C.end();
    }

    private static void lived(HairProvince x, String what, int... due) {
        for (int i = 0; i < due.length; i++) {
            C.gives(x, what + ", lived(" + i + ")", x.lived(i), due[i]);
        }
    }

    private static void steps() {
        HairProvince x = C.land(Check.LAND);
        C.years(x, "day 3;keep bob plot;keep bob plot;say ann love to cid;say ann love to bob;cut dot by bob;"
            + "cut ann by cid;", 7);
        // DAY 3: two were said at DINNERS; then love; name is 3 long, so bob hears it.
        C.gives(x, "live(0)", x.live(0), 7);
        lived(x, "each STEP", 3, 3, 3, 1, 0);
        C.gives(x, "many(6)", x.many(6), 3);
        C.gives(x, "many(8)", x.many(8), 2);
        C.gives(x, "many(9)", x.many(9), 1);
        C.gives(x, "person(1, 2)", x.person(1, 2), 13);
        C.gives(x, "person(1, 3)", x.person(1, 3), 9);
        C.gives(x, "person(2, 2)", x.person(2, 2), 6);
        C.gives(x, "live(0) again, all stays as it became", x.live(0), 7);
        C.gives(x, "many(6)", x.many(6), 6);
        C.years(x, "say ann plot to ann;keep ann name;cut bob by bob;", 3);
        C.gives(x, "live(1)", x.live(1), 3);
        lived(x, "what can't be", 3, 0, 0, 0, 0);
    }

    /** s by seed 0: 10,789, 17,804, 18,921; by 8, rounded down: 1,348, 2,225, 2,365. */
    private static void draws() {
        // The rests by 4, 2, 4 are 0, 1, 1: p says b to q.
        HairProvince x = C.land("word a;word b;person p keeps a b;person q;person r keeps a b;person s;");
        C.years(x, "any;", 1);
        C.gives(x, "live(0)", x.live(0), 1);
        lived(x, "any", 0, 0, 1, 0, 0);
        C.gives(x, "person(0, 3)", x.person(0, 3), 1);
        C.gives(x, "person(1, 2)", x.person(1, 2), 2);
        C.gives(x, "person(1, 3), KNOWN alone", x.person(1, 3), 0);
        C.gives(x, "person(3, 2)", x.person(3, 2), 0);
        // The rests by 3, 2, 3 are 1, 1, 1: to himself.
        HairProvince u = C.land("word a;word b;person p;person q keeps a b;person r;");
        C.years(u, "any;", 1);
        C.gives(u, "live(0)", u.live(0), 1);
        lived(u, "any to himself", 1, 0, 0, 0, 0);
        // All three are drawn though it can't be said: the next are 7,591, 1,633, 5,184, so s says b to p.
        HairProvince v = C.land("word a;word b;person p;person q;person r;person s;");
        C.years(v, "any;keep s b;any;", 3);
        v.learn(3, 1);
        C.gives(v, "live(0)", v.live(0), 3);
        lived(v, "any twice", 1, 0, 1, 0, 0);
        C.gives(v, "word(1, 2)", v.word(1, 2), 9);
        HairProvince y = C.land("person p;person q;");
        C.years(y, "any;any;", 2);
        C.gives(y, "live(0) without WORDS", y.live(0), 2);
        lived(y, "any without WORDS", 2, 0, 0, 0, 0);
        HairProvince z = C.land("word a;");
        C.years(z, "any;", 1);
        C.gives(z, "live(9999) without PEOPLE", z.live(9999), 1);
        lived(z, "any without PEOPLE", 1, 0, 0, 0, 0);
    }

    private static void blocks() {
        HairProvince x = C.land("word a;person p keeps a;person q;");
        C.years(x, "when knows q a;day 1;end;when knows p a;day 2;end;", 4);
        C.gives(x, "live(0)", x.live(0), 3);
        lived(x, "knows", 0, 2, 0, 0, 0);
        C.years(x, "when hair p=2;day 1;end;when hair p=2;stop;end;when hair p<3;stop;end;when hair p<4;when hair p>3;"
            + "stop;end;when hair p>2;stop;end;end;day 9;", 12);
        C.gives(x, "live(0)", x.live(0), 8);
        lived(x, "hair", 0, 1, 0, 0, 0);
        C.gives(x, "person(0, 4)", x.person(0, 4), 3);
        C.years(x, "loop 2;when hair p>0;day 1;end;end;day 1;", 4);
        C.gives(x, "live(0): a when within a loop", x.live(0), 6);
        C.gives(x, "lived(1)", x.lived(1), 3);
        C.years(x, "loop 3;day 1;loop 2;any;end;end;day 5;", 5);
        C.gives(x, "live(0): loop, three times day, loop, two any, then day", x.live(0), 1 + 3 * 4 + 1);
        C.gives(x, "lived(1)", x.lived(1), 8);
        C.years(x, "loop 99;end;loop 99;loop 99;end;end;", 3);
        C.gives(x, "live(0) of empty loops", x.live(0), 101);
        lived(x, "empty loops", 0, 0, 0, 0, 0);
        C.years(x, "loop 5;day 1;stop;end;", 3);
        C.gives(x, "live(0) by stop", x.live(0), 3);
        lived(x, "stop", 0, 1, 0, 0, 0);
        HairProvince y = C.land("word a;person p keeps a;person q;");
        C.years(y, "loop 4;when hair q=0;keep q a;end;end;", 3);
        C.gives(y, "live(0), each missed", y.live(0), 9);
        lived(y, "missed in a loop", 4, 0, 0, 0, 0);
    }

    private static void threeHundred() {
        HairProvince x = C.land("person p;");
        C.years(x, "loop 99;any;any;any;end;", 4);
        C.gives(x, "live(0): 1 and 297", x.live(0), 298);
        lived(x, "298", 297, 0, 0, 0, 0);
        C.years(x, "loop 99;any;any;any;end;any;any;", 6);
        C.gives(x, "live(0): just 300", x.live(0), 300);
        lived(x, "300", 299, 0, 0, 0, 0);
        C.years(x, "loop 99;any;any;any;end;any;any;loop 9;end;", 7);
        C.gives(x, "live(0): a loop is left", x.live(0), 300);
        lived(x, "301", 299, 0, 0, 0, 1);
        C.years(x, "loop 99;any;any;any;end;any;stop;any;", 7);
        C.gives(x, "live(0): stop is the 300th", x.live(0), 300);
        lived(x, "stop at 300", 298, 0, 0, 0, 0);
        C.years(x, "loop 99;any;any;any;end;any;any;stop;", 7);
        C.gives(x, "live(0): stop is left", x.live(0), 300);
        lived(x, "stop at 301", 299, 0, 0, 0, 1);
        C.years(x, "loop 99;any;any;any;end;any;when hair p>0;stop;end;", 7);
        C.gives(x, "live(0): a when that is not so is the 300th", x.live(0), 300);
        lived(x, "a when at 300", 298, 0, 0, 0, 0);
        C.years(x, "loop 99;any;any;any;end;any;when hair p=0;stop;end;", 7);
        C.gives(x, "live(0): a STEP within is left", x.live(0), 300);
        lived(x, "within a when at 300", 298, 0, 0, 0, 1);
        C.years(x, "loop 99;loop 99;loop 99;day 1;end;end;end;", 4);
        C.gives(x, "live(0): three loops", x.live(0), 300);
        // Two loops, then three times the third with 99, 99 and 97 DAYS.
        lived(x, "three loops", 0, 295, 0, 0, 1);
    }

    private static void beyondTheLastDay() {
        HairProvince x = C.land("word a grows 9 grey 99;person p temper 999 keeps a;");
        for (int i = 0; i < 100; i++) {
            x.day(99);
        }
        x.day(90);
        C.years(x, "day 10;day 9;day 1;", 3);
        C.gives(x, "live(0)", x.live(0), 3);
        lived(x, "DAYS beyond 9,999", 2, 9, 0, 0, 0);
        C.gives(x, "many(6)", x.many(6), 9999);
    }

    private static void livedStays() {
        HairProvince x = C.land(Check.LAND);
        x.mark();
        C.years(x, "day 3;cut ann by bob;cut ann by ann;", 3);
        C.gives(x, "live(0)", x.live(0), 3);
        lived(x, "at once", 1, 3, 2, 1, 0);
        x.day(1);
        C.fails(x, "live(10000)", x.live(10000), 5);
        lived(x, "behind a call that failed", 1, 3, 2, 1, 0);
        x.mean(0, 3);
        lived(x, "behind mean", 1, 3, 2, 1, 0);
        x.back();
        lived(x, "behind back", 1, 3, 2, 1, 0);
        C.province(x, "");
        C.fails(x, "live(0)", x.live(0), 8);
        lived(x, "behind another PROVINCE", 1, 3, 2, 1, 0);
        C.fails(x, "lived(5)", x.lived(5), 5);
        C.fails(x, "lived(-1)", x.lived(-1), 5);
    }

    private static void means() {
        HairProvince x = C.land("word a grows 3;word b;person p keeps a b;person q;");
        C.years(x, "any;day 2;", 2);
        long sum = 0;
        for (int seed = 5; seed < 25; seed++) {
            x.mark();
            C.gives(x, "live(" + seed + ")", x.live(seed), 2);
            sum += x.many(10);
            x.back();
        }
        C.gives(x, "mean(5, 20)", x.mean(5, 20));
        C.due("mean by one as by live", x.top() * 20, sum * x.bottom());
        C.due("some draws differ", sum > 0 && sum < 20 * 8, true);
        C.gives(x, "many(6), all as it was", x.many(6), 0);
        C.gives(x, "person(0, 3), all as it was", x.person(0, 3), 3);
        C.years(x, "day 2;", 1);
        C.gives(x, "mean(0, 4)", x.mean(0, 4));
        C.fraction(x, "mean(0, 4)", 8, 1);
        C.years(x, "say p a to q;say p b to q;day 2;", 3);
        C.gives(x, "mean(9999, 1)", x.mean(9999, 1));
        C.fraction(x, "mean(9999, 1)", 0, 1);
        C.years(x, "", 0);
        C.gives(x, "mean(9980, 20)", x.mean(9980, 20));
        C.fraction(x, "mean(9980, 20)", 0, 1);
    }

    private static void statuses() {
        HairProvince x = C.land(Check.LAND);
        C.fails(x, "live(-1)", x.live(-1), 5);
        C.fails(x, "live(10000)", x.live(10000), 5);
        C.fails(x, "live(0)", x.live(0), 8);
        C.fails(x, "lived(5)", x.lived(5), 5);
        C.fails(x, "lived(4)", x.lived(4), 8);
        C.fails(x, "mean(0, 1)", x.mean(0, 1), 8);
        int[][] bad = {{-1, 1}, {10000, 1}, {0, 0}, {0, -1}, {0, 21}, {9999, 2}, {9981, 20}, {Integer.MAX_VALUE, 20}};
        for (int[] b : bad) {
            C.fails(x, "mean(" + b[0] + ", " + b[1] + ")", x.mean(b[0], b[1]), 5);
        }
        C.years(x, "day 1;", 1);
        for (int[] b : bad) {
            C.fails(x, "mean(" + b[0] + ", " + b[1] + ")", x.mean(b[0], b[1]), 5);
        }
        C.fraction(x, "mean that failed", 0, 1);
        C.gives(x, "many(6), nothing was lived", x.many(6), 0);
    }

    private static void marks() {
        HairProvince x = C.land(Check.LAND);
        C.fails(x, "back()", x.back(), 8);
        C.gives(x, "mark() on DAY 0", x.mark(), 1);
        x.day(1);
        C.gives(x, "mark() on DAY 1", x.mark(), 2);
        x.day(1);
        C.gives(x, "mark() on DAY 2", x.mark(), 3);
        x.day(1);
        C.fails(x, "mark(), a fourth", x.mark(), 7);
        C.gives(x, "many(6)", x.many(6), 3);
        for (int left = 2; left >= 0; left--) {
            C.gives(x, "back()", x.back(), left);
            C.gives(x, "many(6)", x.many(6), left);
        }
        C.fails(x, "back()", x.back(), 8);
        C.gives(x, "mark() again", x.mark(), 1);
    }

    private static void marksKeepAll() {
        HairProvince x = C.land(Check.LAND);
        C.years(x, "keep ann plot;", 1);
        x.day(1);
        Check.fill(x, 0, 7);
        x.mark();
        x.day(7);
        x.say(3, 3, 0);
        x.learn(1, 3);
        x.keep(1, 3);
        x.cut(0, 1);
        x.train(0, 77);
        x.trade(0, true);
        x.rule(4, 9);
        x.rule(5, 9);
        x.invite(0, 3, 9);
        x.cancel();
        x.cancel();
        C.years(x, "day 1;day 1;", 2);
        C.gives(x, "live(0)", x.live(0), 2);
        x.write(0, 0, 8);
        x.safe(0, 1);
        long top = x.top();
        C.province(x, "word other;person else;");
        x.feed(0x20202020, 0x20202020, 0x20202020, 0x20202020, 0x20202020);
        C.gives(x, "back()", x.back(), 0);
        long[] due = {4, 4, 3, 2, 3, 4, 1, 10, 0, 0, 7};
        for (int what = 0; what <= 10; what++) {
            C.gives(x, "many(" + what + ") taken back", x.many(what), due[what]);
        }
        C.gives(x, "person(0, 0)", x.person(0, 0), 6);
        C.gives(x, "person(1, 2)", x.person(1, 2), 0);
        C.gives(x, "person(3, 3)", x.person(3, 3), 8);
        C.gives(x, "strand(0, 0, 0)", x.strand(0, 0, 0), 2);
        C.gives(x, "strand(0, 0, 1)", x.strand(0, 0, 1), 1);
        C.gives(x, "dinner(2, 2)", x.dinner(2, 2), 5);
        C.gives(x, "word(3, 1)", x.word(3, 1), 99);
        C.gives(x, "read(0, 0): TRAYS are not taken back", x.read(0, 0), 8);
        C.due("the FRACTION is not taken back", x.top(), top);
        C.gives(x, "live(0): the YEARS are taken back", x.live(0), 1);
        C.gives(x, "lived(0)", x.lived(0), 1);
        C.due("the tape is not taken back", x.feed(0x6b656570, 0x20646f74, 0x206c6f76, 0x653b2020, 0x20202020), 40);
        C.gives(x, "years(40): the NAMES are taken back", x.years(40), 1);
        // No YEARS at the MARK: none behind it.
        HairProvince y = C.land(Check.LAND);
        y.mark();
        C.years(y, "day 1;", 1);
        y.back();
        C.fails(y, "live(0)", y.live(0), 8);
    }
}
