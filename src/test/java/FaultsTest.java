/** Promises 10 to 12: the FAULTS of a PROVINCE and of YEARS, kind by kind. */
public final class FaultsTest {
    private static final Check C = new Check("FaultsTest");
    private static final String[] KEYS = {"heard", "odds", "word", "grows", "grey", "person", "temper", "barber",
        "keeps", "dinner", "every", "halves", "day", "keep", "say", "to", "cut", "by", "any", "when", "knows",
        "hair", "loop", "end", "stop"};

    public static void main(String[] args) {
        noToken();
        cantStand();
        names();
        numbers();
        toldAlready();
        oneTooMany();
        yearsStand();
        yearsNamesAndNumbers();
        yearsLimits();
        yearsTaken();
        longestTokens();
        longestTexts();
        leastKind();
        C.end();
    }

    private static HairProvince x() {
        return new HairProvince();
    }

    private static void noToken() {
        C.provinceFault(x(), "!", 1, 0);
        C.provinceFault(x(), "word a; A", 1, 8);
        C.provinceFault(x(), "word\ta;", 1, 4);
        C.provinceFault(x(), "word\ra;", 1, 4);
        C.provinceFault(x(), "word a" + (char) 0 + ";", 1, 6);
        C.provinceFault(x(), "word a" + (char) 225 + ";", 1, 6);
        C.provinceFault(x(), "word a_b;", 1, 6);
        C.provinceFault(x(), "heard 12345;", 1, 6);
        C.provinceFault(x(), "heard 00003;", 1, 6);
        C.provinceFault(x(), "heard 123456789012345678901234567890;", 1, 6);
        C.provinceFault(x(), "12345", 1, 0);
        C.provinceFault(x(), "word 12345", 1, 5);
        C.provinceFault(x(), "heard 3 -", 1, 8);
        // The first along the text counts, of whatever kind.
        C.provinceFault(x(), "heard 100; !", 4, 6);
        C.provinceFault(x(), "heard ! 100;", 1, 6);
    }

    private static void cantStand() {
        C.provinceFault(x(), ";", 2, 0);
        C.provinceFault(x(), "4;", 2, 0);
        C.provinceFault(x(), "<", 2, 0);
        C.provinceFault(x(), " words a;", 2, 1);
        C.provinceFault(x(), "day 1;", 2, 0);
        C.provinceFault(x(), "heard;", 2, 5);
        C.provinceFault(x(), "heard a;", 2, 6);
        C.provinceFault(x(), "heard abcdefghi;", 2, 6);
        C.provinceFault(x(), "abcdefghijklmnopqrstuvwxyz", 2, 0);
        C.provinceFault(x(), "heard 3", 2, 7);
        C.provinceFault(x(), "heard 3  \n", 2, 10);
        C.provinceFault(x(), "heard 3 4;", 2, 8);
        C.provinceFault(x(), "heard", 2, 5);
        C.provinceFault(x(), "odds = 3;", 2, 5);
        C.provinceFault(x(), "word", 2, 4);
        C.provinceFault(x(), "word ;", 2, 5);
        C.provinceFault(x(), "word abcdefghi;", 2, 5);
        C.provinceFault(x(), "word a b;", 2, 7);
        C.provinceFault(x(), "word a grows;", 2, 12);
        C.provinceFault(x(), "word a grey 3 grows 2;", 2, 14);
        C.provinceFault(x(), "word a grows 2 grows 2;", 2, 15);
        C.provinceFault(x(), "word a grows 2 grey 3 grey 3;", 2, 22);
        C.provinceFault(x(), "person a barber temper 3;", 2, 16);
        C.provinceFault(x(), "person a keeps barber;", 2, 15);
        C.provinceFault(x(), "person a keeps 3;", 2, 15);
        C.provinceFault(x(), "person a keeps abcdefghi;", 2, 15);
        C.provinceFault(x(), "person a keeps", 2, 14);
        C.provinceFault(x(), "person a barber barber;", 2, 16);
        C.provinceFault(x(), "person a;person b;dinner a b 3;", 2, 29);
        C.provinceFault(x(), "person a;person b;dinner a b every;", 2, 34);
        C.provinceFault(x(), "person a;person b;dinner a every 3;", 2, 27);
        C.provinceFault(x(), "word a;word b;halves a;", 2, 22);
        C.provinceFault(x(), "word a;word b;halves a b a;", 2, 25);
        for (String key : KEYS) {
            C.provinceFault(x(), "word " + key + ";", 2, 5);
            C.provinceFault(x(), "person " + key + ";", 2, 7);
            C.province(x(), "word " + key + "x;person x" + key + ";");
        }
    }

    private static void names() {
        C.province(x(), "word abcdefgh;person abcdefg;");
        C.provinceFault(x(), "word a;word a;", 3, 12);
        C.provinceFault(x(), "word a;person a;", 3, 14);
        C.provinceFault(x(), "person a;word a;", 3, 14);
        C.provinceFault(x(), "person abcdefgh;person abcdefgh;", 3, 23);
        C.provinceFault(x(), "person p keeps a;word a;", 3, 15);
        C.provinceFault(x(), "word a;person p keeps a p;", 3, 24);
        C.provinceFault(x(), "person p;person q keeps p;", 3, 24);
        C.provinceFault(x(), "person p;dinner p q every 3;", 3, 18);
        C.provinceFault(x(), "person p;dinner q q every 3;", 3, 16);
        C.provinceFault(x(), "word a;person p;dinner p a every 3;", 3, 25);
        C.provinceFault(x(), "word a;halves a b;", 3, 16);
        C.provinceFault(x(), "word a;person p;halves p a;", 3, 23);
        C.provinceFault(x(), "word a;word ab;halves a b;", 3, 24);
    }

    private static void numbers() {
        C.province(x(), "heard 0099;odds 0016;word a grows 0009 grey 0099;person p temper 0999;");
        C.province(x(), "heard 0;odds 0;word a grows 1 grey 1;person p temper 0;person q;dinner p q every 1;"
            + "dinner q p every 30;");
        C.provinceFault(x(), "heard 100;", 4, 6);
        C.provinceFault(x(), "odds 17;", 4, 5);
        C.provinceFault(x(), "word a grows 0;", 4, 13);
        C.provinceFault(x(), "word a grows 10;", 4, 13);
        C.provinceFault(x(), "word a grey 0;", 4, 12);
        C.provinceFault(x(), "word a grey 100;", 4, 12);
        C.provinceFault(x(), "word a grows 3 grey 100;", 4, 20);
        C.provinceFault(x(), "person p temper 1000;", 4, 16);
        C.provinceFault(x(), "person p;person q;dinner p q every 0;", 4, 35);
        C.provinceFault(x(), "person p;person q;dinner p q every 31;", 4, 35);
    }

    private static void toldAlready() {
        C.provinceFault(x(), "heard 3;heard 3;", 5, 8);
        C.provinceFault(x(), "odds 3;heard 3;odds !", 5, 15);
        C.provinceFault(x(), "heard 0;heard", 5, 8);
        C.provinceFault(x(), "odds 0;odds", 5, 7);
        C.provinceFault(x(), "word a;word b;person p keeps a b a;", 5, 33);
        C.provinceFault(x(), "person p;dinner p p every 3;", 5, 18);
        C.provinceFault(x(), "word a;halves a a;", 5, 16);
        // Told behind a FAULT counts for nothing in a new text.
        HairProvince y = x();
        C.provinceFault(y, "heard 3;odds 2;!", 1, 15);
        C.province(y, "heard 4;odds 5;");
    }

    private static void oneTooMany() {
        String words = "word a;word b;word c;word d;word e;word f;word g;word h;";
        String people = "person p;person q;person r;person s;person t;person u;";
        String dinner = "dinner p q every 2;";
        String halves = "halves a b;";
        C.province(x(), words + people + dinner.repeat(6) + halves.repeat(6));
        C.provinceFault(x(), words + "word", 6, words.length());
        C.provinceFault(x(), words + "word a;", 6, words.length());
        C.provinceFault(x(), people + "person !", 6, people.length());
        C.provinceFault(x(), people + dinner.repeat(6) + " dinner", 6, people.length() + 6 * dinner.length() + 1);
        C.provinceFault(x(), words + halves.repeat(6) + "halves", 6, words.length() + 6 * halves.length());
        C.province(x(), words + "person z keeps h g f e d c b a;");
        C.provinceFault(x(), words + "person z keeps h g f e d c b a h;", 5, words.length() + 31);
    }

    private static HairProvince land() {
        return C.land(Check.LAND);
    }

    private static void yearsStand() {
        HairProvince y = land();
        C.yearsFault(y, "end;", 2, 0);
        C.yearsFault(y, "day 1;end;", 2, 6);
        C.yearsFault(y, "loop 2;end;end;", 2, 11);
        C.yearsFault(y, "loop 2;", 2, 7);
        C.yearsFault(y, "loop 2;loop 2;end;  ", 2, 20);
        C.yearsFault(y, "loop 2;end", 2, 10);
        C.yearsFault(y, "loop 2;end end;", 2, 11);
        C.yearsFault(y, "loop;", 2, 4);
        C.yearsFault(y, "day;", 2, 3);
        C.yearsFault(y, "day ann;", 2, 4);
        C.yearsFault(y, "days 1;", 2, 0);
        C.yearsFault(y, "heard 3;", 2, 0);
        C.yearsFault(y, "any", 2, 3);
        C.yearsFault(y, "any any;", 2, 4);
        C.yearsFault(y, "say ann plot;", 2, 12);
        C.yearsFault(y, "say ann plot by bob;", 2, 13);
        C.yearsFault(y, "cut ann to bob;", 2, 8);
        C.yearsFault(y, "keep ann by;", 2, 9);
        C.yearsFault(y, "when;", 2, 4);
        C.yearsFault(y, "when ann;", 2, 5);
        C.yearsFault(y, "when hair ann;", 2, 13);
        C.yearsFault(y, "when hair ann ; 3;", 2, 14);
        C.yearsFault(y, "when hair ann > ann;", 2, 16);
        C.yearsFault(y, "when hair ann >= 3;", 2, 15);
        C.yearsFault(y, "when knows ann plot > 3;", 2, 20);
        C.yearsFault(y, "keep abcdefghi plot;", 2, 5);
        C.yearsFault(y, "stop", 2, 4);
        C.yearsFault(y, "stop;5", 2, 5);
        C.yearsFault(y, "stop;12345", 1, 5);
        C.yearsFault(y, "stop;?", 1, 5);
        C.yearsFault(y, "day 1;#", 1, 6);
    }

    private static void yearsNamesAndNumbers() {
        HairProvince y = land();
        C.yearsFault(y, "keep plot plot;", 3, 5);
        C.yearsFault(y, "keep ann ann;", 3, 9);
        C.yearsFault(y, "keep eve plot;", 3, 5);
        C.yearsFault(y, "say bob cid to ann;", 3, 8);
        C.yearsFault(y, "say love love to ann;", 3, 4);
        C.yearsFault(y, "say ann love to love;", 3, 16);
        C.yearsFault(y, "cut love by ann;", 3, 4);
        C.yearsFault(y, "cut ann by love;", 3, 11);
        C.yearsFault(y, "when knows love love;end;", 3, 11);
        C.yearsFault(y, "when knows ann ann;end;", 3, 15);
        C.yearsFault(y, "when hair love > 3;end;", 3, 10);
        C.yearsFault(y, "day 0;", 4, 4);
        C.yearsFault(y, "day 21;", 4, 4);
        C.yearsFault(y, "loop 0;end;", 4, 5);
        C.yearsFault(y, "loop 100;end;", 4, 5);
        C.years(y, "day 1;day 20;loop 1;end;loop 99;end;when hair ann=9999;end;when hair ann<0;end;", 6);
        C.years(y, "say ann plot to ann;cut ann by ann;keep ann plot;", 3);
    }

    private static void yearsLimits() {
        HairProvince y = land();
        C.years(y, "stop;".repeat(30), 30);
        C.yearsFault(y, "stop;".repeat(30) + "stop", 6, 150);
        C.yearsFault(y, "stop;".repeat(30) + "end;", 2, 150);
        C.years(y, "loop 2;" + "any;".repeat(29) + "end;", 30);
        C.yearsFault(y, "loop 2;" + "any;".repeat(29) + "any;end;", 6, 7 + 116);
        String three = "loop 2;when knows ann plot;loop 3;";
        C.years(y, three + "any;end;end;loop 4;when hair ann=0;end;end;end;", 6);
        C.yearsFault(y, three + "loop 2;end;end;end;end;", 7, three.length());
        C.yearsFault(y, three + "when !", 7, three.length());
        C.yearsFault(y, three + "any;".repeat(27) + "loop 2;", 6, three.length() + 108);
        C.years(y, "loop 1;end;".repeat(27), 27);
    }

    private static void yearsTaken() {
        HairProvince y = land();
        C.fails(y, "years(1) of an empty tape", y.years(1), 5);
        C.fails(y, "years(-1)", y.years(-1), 5);
        Check.feed(y, "any;".repeat(10) + " ".repeat(280));
        C.fails(y, "years(301)", y.years(301), 5);
        C.gives(y, "years(300)", y.years(300), 10);
        C.fails(y, "years(1) behind it", y.years(1), 5);
        C.yearsFault(y, "any;any;any!", 1, 11);
        C.gives(y, "live(5) by the old ones", y.live(5), 10);
        C.fails(y, "years(1) behind a FAULT", y.years(1), 5);
        C.due("fault(0) stays", y.fault(0), 1);
        C.due("fault(2)", y.fault(2), -1);
        C.years(y, "", 0);
        C.years(y, " \n ", 0);
        C.gives(y, "live(0) of no STEPS", y.live(0), 0);
    }

    /** LETTERS of 8 and of 9 wherever a NAME must stand, NUMBERS of 4 digits and of 5 wherever one must. */
    private static void longestTokens() {
        String eight = "word wwwwwwww;word vvvvvvvv;person pppppppp keeps wwwwwwww vvvvvvvv;person qqqqqqqq barber;"
            + "dinner pppppppp qqqqqqqq every 0030;halves wwwwwwww vvvvvvvv;";
        C.province(x(), eight);
        for (char c : new char[] {'w', 'v', 'p', 'q'}) {
            String name = ("" + c).repeat(8);
            for (int at = eight.indexOf(name); at >= 0; at = eight.indexOf(name, at + 8)) {
                C.provinceFault(x(), eight.substring(0, at) + c + eight.substring(at), 2, at);
            }
        }
        HairProvince y = C.land(eight);
        String life = "keep pppppppp wwwwwwww;say pppppppp vvvvvvvv to qqqqqqqq;cut pppppppp by qqqqqqqq;"
            + "when knows qqqqqqqq wwwwwwww;end;when hair pppppppp > 9999;end;day 0020;loop 0099;end;";
        C.years(y, life, 7);
        for (char c : new char[] {'w', 'v', 'p', 'q'}) {
            String name = ("" + c).repeat(8);
            for (int at = life.indexOf(name); at >= 0; at = life.indexOf(name, at + 8)) {
                C.yearsFault(C.land(eight), life.substring(0, at) + c + life.substring(at), 2, at);
                // The same NAME but for its last letter is no such one.
                C.yearsFault(C.land(eight), life.substring(0, at + 7) + life.substring(at + 8), 3, at);
            }
        }
        for (String number : new String[] {"9999", "0020", "0099"}) {
            int at = life.indexOf(number);
            C.yearsFault(y, life.substring(0, at) + "0" + life.substring(at), 1, at);
        }
        for (String before : new String[] {"heard ", "odds ", "word a grows ", "word a grey ", "person a temper ",
            "person a;person b;dinner a b every "}) {
            C.provinceFault(x(), before + "9999;", 4, before.length());
            C.provinceFault(x(), before + "10000;", 1, before.length());
            C.provinceFault(x(), before + "00001;", 1, before.length());
            // 2 to the 32nd and to the 64th, and 1 more: a NUMBER does not wrap around.
            C.provinceFault(x(), before + "4294967297;", 1, before.length());
            C.provinceFault(x(), before + "18446744073709551617;", 1, before.length());
            C.province(x(), before + "0001;");
        }
        // In twenty-sevens, and of 64 bits, these are the numbers of heard, odds, any and stop.
        C.provinceFault(x(), "dnxhqojvfwzwnb 3;", 2, 0);
        C.provinceFault(x(), "ibuqhcuqmedtwo 3;", 2, 0);
        C.yearsFault(x(), "dnxhqojvfouwjw;", 2, 0);
        C.yearsFault(x(), "ibuqhcuqmeijgl;", 2, 0);
        // NAMES that differ in their last letters, or in how many these are, are unlike.
        C.province(x(), "word a;word aa;word aaa;word aaaaaaaa;word aaaaaaab;word zzzzzzzz;word zzzzzzzy;word z;"
            + "person b;person ba;person ab;person az;person bz;person zzzzzzz;");
    }

    /** A PROVINCE of 900 bytes, YEARS of 300: all bytes count, the end is just behind them. */
    private static void longestTexts() {
        C.province(x(), "word a;" + " ".repeat(892) + "\n");
        C.province(x(), "word a" + "\n".repeat(893) + ";");
        C.provinceFault(x(), "word a;" + " ".repeat(892) + "!", 1, 899);
        C.provinceFault(x(), "word a" + " ".repeat(894), 2, 900);
        C.provinceFault(x(), "word a;" + " ".repeat(889) + "word", 2, 900);
        C.provinceFault(x(), ";".repeat(900), 2, 0);
        C.provinceFault(x(), "1".repeat(900), 1, 0);
        C.provinceFault(x(), "a".repeat(900), 2, 0);
        C.provinceFault(x(), "word " + "a".repeat(895), 2, 5);
        C.provinceFault(x(), "heard " + "0".repeat(894), 1, 6);
        HairProvince y = land();
        C.years(y, "any;" + " ".repeat(292) + "any;", 2);
        C.years(y, "loop 2;" + " ".repeat(289) + "end;", 1);
        C.yearsFault(y, "any;" + " ".repeat(293) + "any", 2, 300);
        C.yearsFault(y, "loop 2;" + " ".repeat(293), 2, 300);
        C.yearsFault(y, "any;" + " ".repeat(295) + "9", 2, 299);
        C.yearsFault(y, "any;" + " ".repeat(295) + "A", 1, 299);
        C.years(y, "say ann love to dot;".repeat(15), 15);
    }

    /** Of one TOKEN the least kind; of several TOKENS the first, of whatever kind. */
    private static void leastKind() {
        C.provinceFault(x(), "word a;word 12345", 1, 12);
        C.provinceFault(x(), "12345 word", 1, 0);
        C.provinceFault(x(), "word a;halves a abcdefghi;", 2, 16);
        C.provinceFault(x(), "word a;halves a halves;", 2, 16);
        C.provinceFault(x(), "heard 3;heard 12345;", 5, 8);
        C.provinceFault(x(), "word a;word a grows 99;!", 3, 12);
        C.provinceFault(x(), "person a;dinner a a every 99;", 5, 18);
        C.provinceFault(x(), "person a;dinner a b every 99;", 3, 18);
        C.provinceFault(x(), "word a grows 99 grey 999;word a;", 4, 13);
        C.provinceFault(x(), "word a;person p keeps a a b;", 5, 24);
        C.provinceFault(x(), "word a;person p keeps a b a;", 3, 24);
        HairProvince y = land();
        String three = "loop 1;loop 1;loop 1;";
        C.yearsFault(y, three + "any;".repeat(27) + "when hair eve>12345;", 6, three.length() + 108);
        C.yearsFault(y, three + "loop 100;", 7, three.length());
        C.yearsFault(y, three + "end;end;end;end;", 2, three.length() + 12);
        C.years(y, three + "end;loop 1;end;end;when knows ann plot;end;end;", 5);
        C.yearsFault(y, "any;".repeat(30) + "days 1;", 2, 120);
        C.yearsFault(y, "any;".repeat(30) + "?", 1, 120);
        C.yearsFault(y, "loop 0;loop 0;", 4, 5);
        C.yearsFault(y, "loop 100 loop", 4, 5);
        C.yearsFault(y, "when hair eve>12345;end;", 3, 10);
        C.yearsFault(y, "when hair ann>12345;end;", 1, 14);
        C.yearsFault(y, "when hair ann!12345;end;", 1, 13);
        C.yearsFault(y, "say ann love to dot", 2, 19);
    }
}
