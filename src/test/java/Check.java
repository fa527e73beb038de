/** What the tests share: they hold answers against what is due, and feed texts. */
final class Check {
    /** The PROVINCE that most tests begin with. */
    static final String LAND = "heard 3;odds 4;word plot grows 2 grey 5;word love grows 1;"
        + "word debt grows 3 grey 4;word name grows 1 grey 99;person ann temper 6 keeps plot love;"
        + "person bob temper 20 barber;person cid temper 3 keeps debt;person dot barber keeps name;"
        + "dinner ann bob every 3;dinner bob cid every 2;dinner cid dot every 5;"
        + "halves plot debt;halves love name;";

    private final String name;
    private int wrong;
    private int asked;

    Check(String name) {
        this.name = name;
    }

    void due(String call, long got, long want) {
        asked++;
        if (got != want) {
            wrong++;
            System.out.println(name + ": " + call + " answered " + got + ", due is " + want);
        }
    }

    void due(String call, boolean got, boolean want) {
        due(call, got ? 1 : 0, want ? 1 : 0);
    }

    /** A call that must have failed: NONE, and its STATUS. */
    void fails(HairProvince x, String call, long got, int status) {
        due(call, got, -1);
        due(call + ", its STATUS", x.status(), status);
    }

    void fails(HairProvince x, String call, boolean got, int status) {
        due(call, got, false);
        due(call + ", its STATUS", x.status(), status);
    }

    /** A call that must have gone well: its answer, and STATUS 0. */
    void gives(HairProvince x, String call, long got, long want) {
        due(call, got, want);
        due(call + ", its STATUS", x.status(), 0);
    }

    void gives(HairProvince x, String call, boolean got) {
        due(call, got, true);
        due(call + ", its STATUS", x.status(), 0);
    }

    void fraction(HairProvince x, String call, long top, long bottom) {
        due(call + ", the top", x.top(), top);
        due(call + ", the bottom", x.bottom(), bottom);
    }

    /** The text comes to the tape, with blanks behind it: how long it is. */
    static int feed(HairProvince x, String text) {
        for (int i = 0; i < text.length(); i += 20) {
            int[] five = new int[5];
            for (int k = 0; k < 20; k++) {
                int b = i + k < text.length() ? text.charAt(i + k) : ' ';
                five[k / 4] = five[k / 4] << 8 | b & 255;
            }
            x.feed(five[0], five[1], five[2], five[3], five[4]);
        }
        return text.length();
    }

    HairProvince land(String text) {
        HairProvince x = new HairProvince();
        province(x, text);
        return x;
    }

    void province(HairProvince x, String text) {
        x.province(feed(x, text));
        due("province of " + text + ", its STATUS", x.status(), 0);
        due("fault(0) of " + text, x.fault(0), 0);
        due("fault(1) of " + text, x.fault(1), -1);
    }

    void years(HairProvince x, String text, int steps) {
        gives(x, "years of " + text, x.years(feed(x, text)), steps);
        due("fault(0) of " + text, x.fault(0), 0);
        due("fault(1) of " + text, x.fault(1), -1);
    }

    void provinceFault(HairProvince x, String text, int kind, int place) {
        fails(x, "province of " + text, x.province(feed(x, text)), 10);
        due("fault(0) of " + text, x.fault(0), kind);
        due("fault(1) of " + text, x.fault(1), place);
    }

    void yearsFault(HairProvince x, String text, int kind, int place) {
        fails(x, "years of " + text, x.years(feed(x, text)), 10);
        due("fault(0) of " + text, x.fault(0), kind);
        due("fault(1) of " + text, x.fault(1), place);
    }

    /** A TRAY of 64 bits with these numbers. */
    static void fill(HairProvince x, int tray, long... numbers) {
        x.tray(tray, 3, numbers.length);
        for (int i = 0; i < numbers.length; i++) {
            x.write(tray, i, numbers[i]);
        }
    }

    void end() {
        System.out.println(name + ": " + asked + " answers, " + wrong + " of them wrong");
        if (wrong != 0) {
            System.exit(1);
        }
    }
}
