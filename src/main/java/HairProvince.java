/**
 * A province where hair is of the unsaid. The document says what each call promises; here stands
 * how. Every row is made once, with the object, and used again by each call.
 */
public final class HairProvince {
    public static final int NONE = -1;

    private static final int FINE = 0;
    private static final int NO_TRAY = 1;
    private static final int NO_SUCH = 2;
    private static final int MISSING = 3;
    private static final int NO_PLACE = 4;
    private static final int BAD_NUMBER = 5;
    private static final int BELOW = 6;
    private static final int TOO_MANY = 7;
    private static final int NOTHING = 8;
    private static final int CANNOT = 9;
    private static final int FAULTY = 10;
    private static final int UNLIKE = 11;

    private static final int MAX_TAPE = 900;
    private static final int FED = 20;
    private static final int MAX_YEARS_TEXT = 300;
    private static final int MAX_MARKS = 3;
    private static final int MAX_WORDS = 8;
    private static final int MAX_PEOPLE = 6;
    private static final int MAX_DINNERS = 6;
    private static final int MAX_HALVES = 6;
    private static final int MAX_HEARD = 99;
    private static final int MAX_ODDS = 16;
    private static final int MAX_GROWS = 9;
    private static final int MAX_GREY = 99;
    private static final int MAX_TEMPER = 999;
    private static final int MAX_EVERY = 30;
    private static final int MAX_AGE = 999;
    private static final int LAST_DAY = 9999;
    private static final int MAX_AHEAD = 200;
    private static final int MAX_DAYS_AT_ONCE = 99;
    private static final int MAX_TWOS = 20;
    private static final int MAX_TWO_DAYS = 999;
    private static final int MAX_ASKED_DAYS = 99;
    private static final int MAX_MUCH = 9999;
    private static final int MAX_GAME_TURNS = 3;
    private static final int MAX_SAFE_DAYS = 2;
    private static final int MAX_SEED = 9999;
    private static final int MAX_SEEDS = 20;

    private int status;
    private long top;
    private long bottom;
    private int faultKind;
    private int faultPlace;
    private int marks;
    private final Trays trays;
    private final Tokens tokens;
    private final Province now;
    /** A second province: days ahead are tried on it, and a text is read into it. */
    private final Province spare;
    private final Years plan;
    private final Years draft;
    private final Province[] markedProvinces;
    private final Years[] markedYears;
    private final Living living;
    /** What live() told latest; NONE ahead of any. */
    private final int[] livedRow;
    private final Fits fits;
    private final Rounds rounds;
    private final Plait plait;
    private final Duel duel;

    public HairProvince() {
        status = FINE;
        top = 0;
        bottom = 1;
        faultKind = NONE;
        faultPlace = NONE;
        trays = new Trays();
        tokens = new Tokens();
        now = new Province();
        spare = new Province();
        plan = new Years();
        draft = new Years();
        markedProvinces = new Province[MAX_MARKS];
        markedYears = new Years[MAX_MARKS];
        for (int i = 0; i < MAX_MARKS; i++) {
            markedProvinces[i] = new Province();
            markedYears[i] = new Years();
        }
        living = new Living();
        livedRow = new int[Living.FACTS];
        for (int i = 0; i < Living.FACTS; i++) {
            livedRow[i] = NONE;
        }
        fits = new Fits();
        rounds = new Rounds();
        plait = new Plait();
        duel = new Duel();
    }

    private int fail(int why) {
        status = why;
        return NONE;
    }

    private boolean refuse(int why) {
        status = why;
        return false;
    }

    private int give(int answer) {
        status = FINE;
        return answer;
    }

    private boolean agree() {
        status = FINE;
        return true;
    }

    private static boolean within(int v, int least, int most) {
        return v >= least && v <= most;
    }

    public int status() {
        return status;
    }

    public long top() {
        return top;
    }

    public long bottom() {
        return bottom;
    }

    private void tell(long above, long below) {
        long a = above;
        long b = below;
        // Euclid's steps are fewer than 100 for any two longs.
        for (int i = 0; i < 100 && b != 0; i++) {
            long rest = a % b;
            a = b;
            b = rest;
        }
        long divisor = a > 0 ? a : 1;
        top = above / divisor;
        bottom = below / divisor;
    }

    // ---- TRAYS

    public boolean tray(int tray, int sort, int many) {
        if (!trays.isTray(tray) || !trays.isSort(sort)) {
            return refuse(NO_TRAY);
        }
        if (many > Trays.MAX_SIZE) {
            return refuse(BAD_NUMBER);
        }
        if (many < 0) {
            return refuse(BELOW);
        }
        trays.make(tray, sort, many);
        return agree();
    }

    private int trayStatus(int tray) {
        if (!trays.isTray(tray)) {
            return NO_TRAY;
        }
        return trays.isMissing(tray) ? MISSING : FINE;
    }

    private int placeStatus(int tray, int place) {
        int why = trayStatus(tray);
        if (why != FINE) {
            return why;
        }
        return within(place, 0, trays.sizeOf(tray) - 1) ? FINE : NO_PLACE;
    }

    public boolean write(int tray, int place, long v) {
        int why = placeStatus(tray, place);
        if (why != FINE) {
            return refuse(why);
        }
        trays.put(tray, place, v);
        return agree();
    }

    public long read(int tray, int place) {
        int why = placeStatus(tray, place);
        if (why != FINE) {
            return fail(why);
        }
        status = FINE;
        return trays.at(tray, place);
    }

    public boolean pour(int tray, int i, int to, int j, int many) {
        if (!trays.isTray(tray) || !trays.isTray(to)) {
            return refuse(NO_TRAY);
        }
        if (trays.isMissing(tray) || trays.isMissing(to)) {
            return refuse(MISSING);
        }
        if (trays.sortOf(tray) != trays.sortOf(to)) {
            return refuse(UNLIKE);
        }
        if (many < 0) {
            return refuse(BELOW);
        }
        if (!trays.hasRow(tray, i, many) || !trays.hasRow(to, j, many)) {
            return refuse(NO_PLACE);
        }
        trays.move(tray, i, to, j, many);
        return agree();
    }

    // ---- texts

    public int feed(int a, int b, int c, int d, int e) {
        if (tokens.tapeSize + FED > MAX_TAPE) {
            return NONE;
        }
        tokens.putBytes(a);
        tokens.putBytes(b);
        tokens.putBytes(c);
        tokens.putBytes(d);
        tokens.putBytes(e);
        return tokens.tapeSize;
    }

    public int province(int n) {
        if (!within(n, 0, tokens.tapeSize)) {
            return fail(BAD_NUMBER);
        }
        tokens.split(n);
        boolean taken = ProvinceReader.readAll(tokens, spare);
        closeText(taken);
        if (!taken) {
            return fail(FAULTY);
        }
        now.copyFrom(spare);
        plan.clear();
        return give(now.people);
    }

    public int years(int n) {
        if (!within(n, 0, Math.min(tokens.tapeSize, MAX_YEARS_TEXT))) {
            return fail(BAD_NUMBER);
        }
        tokens.split(n);
        boolean taken = YearsReader.readAll(tokens, now, draft);
        closeText(taken);
        if (!taken) {
            return fail(FAULTY);
        }
        plan.copyFrom(draft);
        return give(plan.steps);
    }

    private void closeText(boolean taken) {
        tokens.tapeSize = 0;
        faultKind = taken ? 0 : tokens.fault;
        faultPlace = taken ? NONE : tokens.faultPlace;
    }

    public int fault(int what) {
        if (what == 0) {
            return faultKind;
        }
        return what == 1 ? faultPlace : NONE;
    }

    public int many(int what) {
        switch (what) {
            case 0:
                return give(now.words);
            case 1:
                return give(now.people);
            case 2:
                return give(now.dinners);
            case 3:
                return give(now.halves);
            case 4:
                return give(now.heard);
            case 5:
                return give(now.odds);
            case 6:
                return give(now.date);
            case 7:
                return give(now.barbers);
            case 8:
                return give(now.saidAtDinners);
            case 9:
                return give(now.cuts);
            case 10:
                return give(now.allHair());
            default:
                return fail(BAD_NUMBER);
        }
    }

    public int word(int word, int what) {
        if (!now.isWord(word)) {
            return fail(NO_SUCH);
        }
        switch (what) {
            case 0:
                return give(now.grows[word]);
            case 1:
                return give(now.greys[word]);
            case 2:
                return give(now.knowersOf(word));
            case 3:
                return give(now.keepersOf(word));
            case 4:
                return give(now.otherHalves[word]);
            default:
                return fail(BAD_NUMBER);
        }
    }

    public int person(int person, int what) {
        if (!now.isPerson(person)) {
            return fail(NO_SUCH);
        }
        switch (what) {
            case 0:
                return give(now.tempers[person]);
            case 1:
                return give(now.isBarber(person) ? 1 : 0);
            case 2:
                return give(now.knows[person]);
            case 3:
                return give(now.keeps[person]);
            case 4:
                return give(now.hairOf(person));
            default:
                return fail(BAD_NUMBER);
        }
    }

    public int strand(int person, int word, int what) {
        if (!now.isPerson(person) || !now.isWord(word)) {
            return fail(NO_SUCH);
        }
        if (!within(what, 0, 1)) {
            return fail(BAD_NUMBER);
        }
        if (!now.isKept(person, word)) {
            return fail(NOTHING);
        }
        return give(what == 0 ? now.strandLength(person, word) : now.strandAge(person, word));
    }

    public int dinner(int dinner, int what) {
        if (!within(dinner, 0, now.dinners - 1)) {
            return fail(NO_SUCH);
        }
        if (!within(what, 0, Province.DINNER_FACTS - 1)) {
            return fail(BAD_NUMBER);
        }
        return give(now.dinnerFact(dinner, what));
    }

    public int longest(int person) {
        if (!now.isPerson(person)) {
            return fail(NO_SUCH);
        }
        int word = now.longestOf(person, now.keeps[person]);
        return word == NONE ? fail(NOTHING) : give(word);
    }

    public int copyHair(int tray) {
        int why = trayStatus(tray);
        if (why != FINE) {
            return fail(why);
        }
        if (trays.sizeOf(tray) < now.people) {
            return fail(NO_PLACE);
        }
        for (int p = 0; p < now.people; p++) {
            trays.put(tray, p, now.hairOf(p));
        }
        return give(now.people);
    }

    // ---- what is done

    public int day(int days) {
        if (!within(days, 1, MAX_DAYS_AT_ONCE)) {
            return fail(BAD_NUMBER);
        }
        if (now.date + days > LAST_DAY) {
            return fail(TOO_MANY);
        }
        return give(now.passDays(days));
    }

    public int say(int person, int word, int other) {
        if (!now.isPerson(person) || !now.isWord(word) || !now.isPerson(other)) {
            return fail(NO_SUCH);
        }
        if (!now.canSpeak(person, word, other)) {
            return fail(CANNOT);
        }
        now.speak(person, word, other);
        return give(now.hairOf(person));
    }

    public int keep(int person, int word) {
        if (!now.isPerson(person) || !now.isWord(word)) {
            return fail(NO_SUCH);
        }
        if (!now.canStart(person, word)) {
            return fail(CANNOT);
        }
        now.startStrand(person, word);
        return give(Integer.bitCount(now.keeps[person]));
    }

    public int learn(int person, int word) {
        if (!now.isPerson(person) || !now.isWord(word)) {
            return fail(NO_SUCH);
        }
        if (now.isKnown(person, word)) {
            return fail(CANNOT);
        }
        now.knows[person] |= 1 << word;
        return give(Integer.bitCount(now.knowersOf(word)));
    }

    public int cut(int person, int barber) {
        if (!now.isPerson(person) || !now.isPerson(barber)) {
            return fail(NO_SUCH);
        }
        if (!now.canTrim(person, barber)) {
            return fail(CANNOT);
        }
        return give(now.trim(person, barber));
    }

    public boolean train(int person, int temper) {
        if (!now.isPerson(person)) {
            return refuse(NO_SUCH);
        }
        if (!within(temper, 0, MAX_TEMPER)) {
            return refuse(BAD_NUMBER);
        }
        now.tempers[person] = temper;
        return agree();
    }

    public boolean trade(int person, boolean barber) {
        if (!now.isPerson(person)) {
            return refuse(NO_SUCH);
        }
        if (now.isBarber(person) == barber) {
            return refuse(CANNOT);
        }
        now.barbers ^= 1 << person;
        return agree();
    }

    public boolean rule(int what, int much) {
        if (what == 4 && within(much, 0, MAX_HEARD)) {
            now.heard = much;
            return agree();
        }
        if (what == 5 && within(much, 0, MAX_ODDS)) {
            now.odds = much;
            return agree();
        }
        return refuse(BAD_NUMBER);
    }

    public int invite(int person, int other, int every) {
        if (!now.isPerson(person) || !now.isPerson(other)) {
            return fail(NO_SUCH);
        }
        if (!within(every, 1, MAX_EVERY) || person == other) {
            return fail(BAD_NUMBER);
        }
        if (now.dinners >= MAX_DINNERS) {
            return fail(TOO_MANY);
        }
        now.addDinner(person, other, every);
        return give(now.dinners - 1);
    }

    public int cancel() {
        if (now.dinners <= 0) {
            return fail(NOTHING);
        }
        now.dinners--;
        return give(now.dinners);
    }

    // ---- DAYS ahead

    private int aheadStatus(int person, int days) {
        if (!now.isPerson(person)) {
            return NO_SUCH;
        }
        return within(days, 0, MAX_AHEAD) ? FINE : BAD_NUMBER;
    }

    public int hairIn(int person, int days) {
        int why = aheadStatus(person, days);
        if (why != FINE) {
            return fail(why);
        }
        spare.copyFrom(now);
        spare.passDays(days);
        return give(spare.hairOf(person));
    }

    public int knownIn(int person, int days) {
        int why = aheadStatus(person, days);
        if (why != FINE) {
            return fail(why);
        }
        spare.copyFrom(now);
        spare.passDays(days);
        return give(spare.knows[person]);
    }

    public int out(int word) {
        if (!now.isWord(word)) {
            return fail(NO_SUCH);
        }
        int before = now.knowersOf(word);
        spare.copyFrom(now);
        for (int d = 1; d <= MAX_AHEAD; d++) {
            spare.passDays(1);
            if (spare.knowersOf(word) != before) {
                return give(d);
            }
        }
        return fail(NOTHING);
    }

    public int learnsIn(int person, int word) {
        if (!now.isPerson(person) || !now.isWord(word)) {
            return fail(NO_SUCH);
        }
        spare.copyFrom(now);
        for (int d = 0; d <= MAX_AHEAD; d++) {
            if (spare.isKnown(person, word)) {
                return give(d);
            }
            spare.passDays(1);
        }
        return fail(NOTHING);
    }

    public int wildIn(int person) {
        if (!now.isPerson(person)) {
            return fail(NO_SUCH);
        }
        spare.copyFrom(now);
        for (int d = 0; d <= MAX_AHEAD; d++) {
            if (spare.hairOf(person) > spare.tempers[person]) {
                return give(d);
            }
            spare.passDays(1);
        }
        return fail(NOTHING);
    }

    public int dinesIn(int person) {
        if (!now.isPerson(person)) {
            return fail(NO_SUCH);
        }
        int best = MAX_EVERY + 1;
        for (int i = 0; i < now.dinners; i++) {
            if (now.isAt(i, person)) {
                best = Math.min(best, now.daysTillDinner(i));
            }
        }
        return best > MAX_EVERY ? fail(NOTHING) : give(best);
    }

    public int quiet(int person, int days) {
        int why = aheadStatus(person, days);
        return why != FINE ? fail(why) : give(now.quietest(person, days));
    }

    public int quietHair(int person, int days) {
        int why = aheadStatus(person, days);
        if (why != FINE) {
            return fail(why);
        }
        return give(now.hairKept(person, now.quietest(person, days), days));
    }

    // ---- what is unsaid

    private int twosStatus(int tray, int n) {
        int why = trayStatus(tray);
        if (why != FINE) {
            return why;
        }
        if (2L * n > trays.sizeOf(tray)) {
            return NO_PLACE;
        }
        return within(n, 0, MAX_TWOS) ? FINE : BAD_NUMBER;
    }

    /** The STATUS of twos of DAYS and a length; where it is FINE, fits holds the sets. */
    private int gather(int tray, int n) {
        int why = twosStatus(tray, n);
        if (why != FINE) {
            return why;
        }
        for (int i = 0; i < n; i++) {
            long days = trays.at(tray, 2 * i);
            if (days < 0 || days > MAX_TWO_DAYS || trays.at(tray, 2 * i + 1) < 0) {
                return BAD_NUMBER;
            }
        }
        fits.startAll(now);
        for (int i = 0; i < n; i++) {
            fits.sift(now, (int) trays.at(tray, 2 * i), trays.at(tray, 2 * i + 1));
        }
        return FINE;
    }

    public int unsaid(int tray, int n) {
        int why = gather(tray, n);
        return why != FINE ? fail(why) : give(fits.size);
    }

    public int sure(int tray, int n) {
        int why = gather(tray, n);
        if (why != FINE) {
            return fail(why);
        }
        return fits.size == 0 ? fail(NOTHING) : give(fits.common());
    }

    public int ask(int tray, int n) {
        int why = gather(tray, n);
        if (why != FINE) {
            return fail(why);
        }
        return fits.size < 2 ? fail(NOTHING) : give(fits.tellingDays(now));
    }

    public int lengthOf(int words, int days) {
        if (!now.isWordSet(words) || !within(days, 0, MAX_TWO_DAYS)) {
            return fail(BAD_NUMBER);
        }
        return give(now.grownTogether(words, days));
    }

    public int daysFor(int words, int much) {
        if (!now.isWordSet(words) || !within(much, 0, MAX_MUCH)) {
            return fail(BAD_NUMBER);
        }
        for (int d = 0; d <= MAX_ASKED_DAYS; d++) {
            if (now.grownTogether(words, d) >= much) {
                return give(d);
            }
        }
        return fail(NOTHING);
    }

    // ---- rounds, plaits, tellers

    public int round(int people) {
        if (!now.isPeopleSet(people)) {
            return fail(BAD_NUMBER);
        }
        int fewest = rounds.fewestBarbers(now, people);
        return fewest == NONE ? fail(NOTHING) : give(fewest);
    }

    public int oneRound() {
        return give(rounds.greatestRound(now));
    }

    /** The STATUS of a PLAIT; where it is FINE, plait knows what must lie ahead of what. */
    private int plaitStatus(int words, int tray, int n) {
        int why = twosStatus(tray, n);
        if (why != FINE) {
            return why;
        }
        if (!now.isWordSet(words)) {
            return BAD_NUMBER;
        }
        plait.clear();
        for (int i = 0; i < n; i++) {
            long first = trays.at(tray, 2 * i);
            long second = trays.at(tray, 2 * i + 1);
            if (first < 0 || first >= now.words || second < 0 || second >= now.words) {
                return BAD_NUMBER;
            }
            plait.putAhead(words, (int) first, (int) second);
        }
        return FINE;
    }

    public int plaits(int words, int tray, int n) {
        int why = plaitStatus(words, tray, n);
        return why != FINE ? fail(why) : give(plait.orders(words));
    }

    public int plaitAt(int words, int tray, int n, int k) {
        int why = plaitStatus(words, tray, n);
        if (why != FINE) {
            return fail(why);
        }
        int word = plait.firstOrderAt(words, k);
        return word == NONE ? fail(NOTHING) : give(word);
    }

    public int tellers(int word, int person) {
        if (!now.isWord(word) || !now.isPerson(person)) {
            return fail(NO_SUCH);
        }
        return give(now.knowersOf(word) & now.companions(1 << person));
    }

    public int rumour(int word, int person) {
        if (!now.isWord(word) || !now.isPerson(person)) {
            return fail(NO_SUCH);
        }
        int reached = now.knowersOf(word);
        // Nobody is further away than all others stand in a row.
        for (int sayings = 0; sayings < MAX_PEOPLE; sayings++) {
            if ((reached >> person & 1) == 1) {
                return give(sayings);
            }
            reached |= now.companions(reached);
        }
        return fail(NOTHING);
    }

    // ---- two, odds

    private int gameStatus(int person, int other, int turns, int least) {
        if (!now.isPerson(person) || !now.isPerson(other)) {
            return NO_SUCH;
        }
        return person != other && within(turns, least, MAX_GAME_TURNS) ? FINE : BAD_NUMBER;
    }

    public int game(int person, int other, int turns) {
        int why = gameStatus(person, other, turns, 0);
        return why != FINE ? fail(why) : give(duel.play(now, person, other, turns));
    }

    public int moveOf(int person, int other, int turns) {
        int why = gameStatus(person, other, turns, 1);
        if (why != FINE) {
            return fail(why);
        }
        duel.play(now, person, other, turns);
        return duel.opening == NONE ? fail(NOTHING) : give(duel.opening);
    }

    public boolean safe(int word, int n) {
        if (!now.isWord(word)) {
            return refuse(NO_SUCH);
        }
        if (!within(n, 0, MAX_SAFE_DAYS)) {
            return refuse(BAD_NUMBER);
        }
        int times = n * Integer.bitCount(now.keepersOf(word));
        tell(power(MAX_ODDS - now.odds, times), power(MAX_ODDS, times));
        return agree();
    }

    private static long power(int base, int times) {
        long product = 1;
        for (int i = 0; i < times; i++) {
            product *= base;
        }
        return product;
    }

    public int riskiest() {
        if (now.words == 0) {
            return fail(NOTHING);
        }
        int best = 0;
        long least = keptQuiet(0);
        for (int w = 1; w < now.words; w++) {
            long odds = keptQuiet(w);
            if (odds < least) {
                least = odds;
                best = w;
            }
        }
        return give(best);
    }

    /** How surely a WORD is not said in a DAY, in 16 to the 6th parts, so that two compare. */
    private long keptQuiet(int word) {
        int keepers = Integer.bitCount(now.keepersOf(word));
        return power(MAX_ODDS - now.odds, keepers) * power(MAX_ODDS, MAX_PEOPLE - keepers);
    }

    // ---- YEARS

    public int live(int seed) {
        if (!within(seed, 0, MAX_SEED)) {
            return fail(BAD_NUMBER);
        }
        if (!plan.there) {
            return fail(NOTHING);
        }
        living.run(now, plan, seed);
        System.arraycopy(living.facts, 0, livedRow, 0, Living.FACTS);
        return give(living.steps);
    }

    public int lived(int what) {
        if (!within(what, 0, Living.FACTS - 1)) {
            return fail(BAD_NUMBER);
        }
        return livedRow[what] == NONE ? fail(NOTHING) : give(livedRow[what]);
    }

    public boolean mean(int seed, int many) {
        if (!within(seed, 0, MAX_SEED) || !within(many, 1, MAX_SEEDS)
                || seed + many - 1 > MAX_SEED) {
            return refuse(BAD_NUMBER);
        }
        if (!plan.there) {
            return refuse(NOTHING);
        }
        long sum = 0;
        for (int i = 0; i < many; i++) {
            spare.copyFrom(now);
            living.run(spare, plan, seed + i);
            sum += spare.allHair();
        }
        tell(sum, many);
        return agree();
    }

    // ---- MARKS

    public int mark() {
        if (marks >= MAX_MARKS) {
            return fail(TOO_MANY);
        }
        markedProvinces[marks].copyFrom(now);
        markedYears[marks].copyFrom(plan);
        marks++;
        return give(marks);
    }

    public int back() {
        if (marks <= 0) {
            return fail(NOTHING);
        }
        marks--;
        now.copyFrom(markedProvinces[marks]);
        plan.copyFrom(markedYears[marks]);
        return give(marks);
    }

    /** Four rows of numbers; a sort that is NONE tells a TRAY that is MISSING. */
    private static final class Trays {
        private static final int TRAYS = 4;
        private static final int SORTS = 4;
        private static final int MAX_SIZE = 60;

        private final int[] sorts = new int[TRAYS];
        private final int[] sizes = new int[TRAYS];
        private final long[] numbers = new long[TRAYS * MAX_SIZE];

        private Trays() {
            for (int i = 0; i < TRAYS; i++) {
                sorts[i] = NONE;
            }
        }

        private boolean isTray(int tray) {
            return tray >= 0 && tray < TRAYS;
        }

        private boolean isSort(int sort) {
            return sort >= 0 && sort < SORTS;
        }

        private boolean isMissing(int tray) {
            return !isTray(tray) || sorts[tray] == NONE;
        }

        private int sortOf(int tray) {
            return isTray(tray) ? sorts[tray] : NONE;
        }

        private int sizeOf(int tray) {
            return isTray(tray) ? sizes[tray] : 0;
        }

        private boolean hasRow(int tray, int from, int many) {
            return from >= 0 && many >= 0 && (long) from + many <= sizeOf(tray);
        }

        private void make(int tray, int sort, int many) {
            if (!isTray(tray) || many < 0 || many > MAX_SIZE) {
                return;
            }
            sorts[tray] = sort;
            sizes[tray] = many;
            for (int i = 0; i < many; i++) {
                numbers[tray * MAX_SIZE + i] = 0;
            }
        }

        private long at(int tray, int place) {
            return hasRow(tray, place, 1) ? numbers[tray * MAX_SIZE + place] : 0;
        }

        private void put(int tray, int place, long v) {
            if (hasRow(tray, place, 1)) {
                numbers[tray * MAX_SIZE + place] = cutTo(sorts[tray], v);
            }
        }

        private static long cutTo(int sort, long v) {
            switch (sort) {
                case 0:
                    return (byte) v;
                case 1:
                    return (short) v;
                case 2:
                    return (int) v;
                default:
                    return v;
            }
        }

        private void move(int tray, int i, int to, int j, int many) {
            if (hasRow(tray, i, many) && hasRow(to, j, many)) {
                System.arraycopy(numbers, tray * MAX_SIZE + i, numbers, to * MAX_SIZE + j, many);
            }
        }
    }

    /** The tape, and its first bytes split into TOKENS, which a reader takes one by one. */
    private static final class Tokens {
        private static final int END = 0;
        private static final int BAD = 1;
        private static final int KEY = 2;
        private static final int NAME = 3;
        private static final int LONG_LETTERS = 4;
        private static final int NUMBER = 5;
        private static final int SIGN = 6;

        private static final int MAX_DIGITS = 4;
        private static final int MAX_LETTERS = 8;

        /** LETTERS that are no NAME; those below are their numbers along this row. */
        private static final String KEYS = "heard odds word grows grey person temper barber keeps dinner every halves day keep say to cut by any when knows hair loop end stop ";
        private static final int ALL_KEYS = 25;
        private static final int HEARD = 0;
        private static final int ODDS = 1;
        private static final int WORD = 2;
        private static final int GROWS = 3;
        private static final int GREY = 4;
        private static final int PERSON = 5;
        private static final int TEMPER = 6;
        private static final int BARBER = 7;
        private static final int KEEPS = 8;
        private static final int DINNER = 9;
        private static final int EVERY = 10;
        private static final int HALVES = 11;
        private static final int DAY = 12;
        private static final int KEEP = 13;
        private static final int SAY = 14;
        private static final int TO = 15;
        private static final int CUT = 16;
        private static final int BY = 17;
        private static final int ANY = 18;
        private static final int WHEN = 19;
        private static final int KNOWS = 20;
        private static final int HAIR = 21;
        private static final int LOOP = 22;
        private static final int CLOSE = 23;
        private static final int STOP = 24;

        /** KEYS as codes of LETTERS, so that a text's are found by one number each. */
        private final long[] keyCodes = new long[ALL_KEYS];
        private final byte[] tape = new byte[MAX_TAPE];
        private int tapeSize;
        private int length;
        /** One long a TOKEN, so that a text needs one row: its value, its place, its kind. */
        private final long[] row = new long[MAX_TAPE + 1];
        private int rowSize;
        private int next;
        private int kind;
        private int place;
        private long value;
        private int takenPlace;
        private long takenValue;
        private int fault;
        private int faultPlace = NONE;

        private Tokens() {
            int key = 0;
            long code = 0;
            for (int i = 0; i < KEYS.length() && key < ALL_KEYS; i++) {
                if (KEYS.charAt(i) == ' ') {
                    keyCodes[key] = code;
                    key++;
                    code = 0;
                } else {
                    code = codeWith(code, KEYS.charAt(i));
                }
            }
        }

        /** LETTERS are numbers in twenty-sevens, none of them 0, so that no two are one number. */
        private static long codeWith(long code, int letter) {
            return code * 27 + letter - 'a' + 1;
        }

        private void putBytes(int four) {
            for (int shift = 24; shift >= 0 && tapeSize < MAX_TAPE; shift -= 8) {
                tape[tapeSize] = (byte) (four >> shift);
                tapeSize++;
            }
        }

        private void split(int n) {
            length = Math.min(n, tapeSize);
            rowSize = 0;
            next = NONE;
            fault = 0;
            faultPlace = NONE;
            int at = 0;
            // Each turn goes a byte further at least.
            for (int i = 0; i < MAX_TAPE && at < length; i++) {
                int b = byteAt(at);
                if (isLetter(b)) {
                    at = splitLetters(at);
                } else if (isDigit(b)) {
                    at = splitNumber(at);
                } else {
                    splitSign(at, b);
                    at++;
                }
            }
            add(END, length, 0);
            take();
        }

        private int byteAt(int i) {
            return i >= 0 && i < length && i < MAX_TAPE ? tape[i] & 255 : 0;
        }

        private static boolean isLetter(int b) {
            return b >= 'a' && b <= 'z';
        }

        private static boolean isDigit(int b) {
            return b >= '0' && b <= '9';
        }

        private void add(int kind, int place, long value) {
            if (rowSize < row.length) {
                row[rowSize] = value << 16 | (long) place << 4 | kind;
                rowSize++;
            }
        }

        private int splitLetters(int from) {
            int to = from;
            long code = 0;
            while (to < length && isLetter(byteAt(to))) {
                code = codeWith(code, byteAt(to));
                to++;
            }
            // The code of more LETTERS than a NAME's may have gone round.
            if (to - from > MAX_LETTERS) {
                add(LONG_LETTERS, from, 0);
                return to;
            }
            int key = findKey(code);
            add(key == NONE ? NAME : KEY, from, key == NONE ? code : key);
            return to;
        }

        private int findKey(long code) {
            for (int key = 0; key < ALL_KEYS; key++) {
                if (keyCodes[key] == code) {
                    return key;
                }
            }
            return NONE;
        }

        private int splitNumber(int from) {
            int to = from;
            long value = 0;
            while (to < length && isDigit(byteAt(to))) {
                value = value * 10 + byteAt(to) - '0';
                to++;
            }
            boolean fits = to - from <= MAX_DIGITS;
            add(fits ? NUMBER : BAD, from, fits ? value : 0);
            return to;
        }

        private void splitSign(int at, int b) {
            if (b == ';' || b == '<' || b == '>' || b == '=') {
                add(SIGN, at, b);
            } else if (b != 10 && b != 32) {
                add(BAD, at, 0);
            }
        }

        /** The next TOKEN comes; behind the last it is the END still. */
        private void take() {
            takenPlace = place;
            takenValue = value;
            if (next < rowSize - 1) {
                next++;
            }
            long token = next >= 0 && next < row.length ? row[next] : 0;
            kind = (int) token & 15;
            place = (int) (token >> 4) & 4095;
            value = token >> 16;
        }

        private boolean isEnd() {
            return kind == END;
        }

        /** Which LETTERS come next, if they are such that are no NAME. */
        private int keyNext() {
            return kind == KEY ? (int) value : NONE;
        }

        private boolean isSignNext(int sign) {
            return kind == SIGN && value == sign;
        }

        /** The TOKEN that comes next is none, or can't stand there. */
        private boolean misfit() {
            fault = kind == BAD ? 1 : 2;
            faultPlace = place;
            return false;
        }

        /** The TOKEN that was taken last is at fault. */
        private boolean reject(int why) {
            fault = why;
            faultPlace = takenPlace;
            return false;
        }

        private boolean takeKey(int key) {
            if (kind != KEY || value != key) {
                return misfit();
            }
            take();
            return true;
        }

        private boolean takeClosing() {
            if (kind != SIGN || value != ';') {
                return misfit();
            }
            take();
            return true;
        }

        private boolean takeName() {
            if (kind != NAME) {
                return misfit();
            }
            take();
            return true;
        }

        /** A NUMBER from least to most; NONE with a FAULT. */
        private int takeNumber(int least, int most) {
            if (kind != NUMBER) {
                misfit();
                return NONE;
            }
            take();
            if (takenValue < least || takenValue > most) {
                reject(4);
                return NONE;
            }
            return (int) takenValue;
        }

        /** The WORD that a NAME tells; NONE with a FAULT. */
        private int takeWord(Province p) {
            if (kind != NAME) {
                misfit();
                return NONE;
            }
            take();
            int found = p.findWord(takenValue);
            if (found == NONE) {
                reject(3);
            }
            return found;
        }

        /** The PERSON that a NAME tells; NONE with a FAULT. */
        private int takePerson(Province p) {
            if (kind != NAME) {
                misfit();
                return NONE;
            }
            take();
            int found = p.findPerson(takenValue);
            if (found == NONE) {
                reject(3);
            }
            return found;
        }
    }

    /** Words, people with their strands, dinners and halves, and what became of them. */
    private static final class Province {
        private static final int FIRST_HEARD = 3;
        private static final int FIRST_ODDS = 1;
        private static final int DINNER_FACTS = 3;

        /** NAMES as numbers: of WORDS, then of PEOPLE from MAX_WORDS on. */
        private final long[] names = new long[MAX_WORDS + MAX_PEOPLE];
        private final int[] grows = new int[MAX_WORDS];
        private final int[] greys = new int[MAX_WORDS];
        private final int[] otherHalves = new int[MAX_WORDS];
        private final int[] tempers = new int[MAX_PEOPLE];
        private final int[] knows = new int[MAX_PEOPLE];
        private final int[] keeps = new int[MAX_PEOPLE];
        /** STRANDS, PERSON by PERSON, WORD by WORD: the DAY on which each began. */
        private final int[] begun = new int[MAX_PEOPLE * MAX_WORDS];
        /** The DAY on which each was 0 long last; how it grew since follows from the DAY it is. */
        private final int[] shorn = new int[MAX_PEOPLE * MAX_WORDS];
        /** DINNER by DINNER: the first, the second, EVERY. */
        private final int[] dinnerFacts = new int[MAX_DINNERS * DINNER_FACTS];
        private int words;
        private int people;
        private int dinners;
        private int halves;
        private int heard = FIRST_HEARD;
        private int odds = FIRST_ODDS;
        private int date;
        private int barbers;
        private int saidAtDinners;
        private int cuts;

        private void clear() {
            words = 0;
            people = 0;
            dinners = 0;
            halves = 0;
            heard = FIRST_HEARD;
            odds = FIRST_ODDS;
            date = 0;
            barbers = 0;
            saidAtDinners = 0;
            cuts = 0;
        }

        private void copyFrom(Province p) {
            System.arraycopy(p.names, 0, names, 0, MAX_WORDS + MAX_PEOPLE);
            System.arraycopy(p.grows, 0, grows, 0, MAX_WORDS);
            System.arraycopy(p.greys, 0, greys, 0, MAX_WORDS);
            System.arraycopy(p.otherHalves, 0, otherHalves, 0, MAX_WORDS);
            System.arraycopy(p.tempers, 0, tempers, 0, MAX_PEOPLE);
            System.arraycopy(p.knows, 0, knows, 0, MAX_PEOPLE);
            System.arraycopy(p.keeps, 0, keeps, 0, MAX_PEOPLE);
            System.arraycopy(p.begun, 0, begun, 0, MAX_PEOPLE * MAX_WORDS);
            System.arraycopy(p.shorn, 0, shorn, 0, MAX_PEOPLE * MAX_WORDS);
            System.arraycopy(p.dinnerFacts, 0, dinnerFacts, 0, MAX_DINNERS * DINNER_FACTS);
            words = p.words;
            people = p.people;
            dinners = p.dinners;
            halves = p.halves;
            heard = p.heard;
            odds = p.odds;
            date = p.date;
            barbers = p.barbers;
            saidAtDinners = p.saidAtDinners;
            cuts = p.cuts;
        }

        private boolean isWord(int w) {
            return w >= 0 && w < words && w < MAX_WORDS;
        }

        private boolean isPerson(int p) {
            return p >= 0 && p < people && p < MAX_PEOPLE;
        }

        private boolean isDinner(int d) {
            return d >= 0 && d < dinners && d < MAX_DINNERS;
        }

        private boolean isWordSet(int set) {
            return set >= 0 && set < 1 << words;
        }

        private boolean isPeopleSet(int set) {
            return set >= 0 && set < 1 << people;
        }

        private int findWord(long name) {
            for (int w = 0; w < words && w < MAX_WORDS; w++) {
                if (names[w] == name) {
                    return w;
                }
            }
            return NONE;
        }

        private int findPerson(long name) {
            for (int p = 0; p < people && p < MAX_PEOPLE; p++) {
                if (names[MAX_WORDS + p] == name) {
                    return p;
                }
            }
            return NONE;
        }

        private void addWord(long name, int growing, int grey) {
            if (words < MAX_WORDS) {
                names[words] = name;
                grows[words] = growing;
                greys[words] = grey;
                otherHalves[words] = 0;
                words++;
            }
        }

        private void addPerson(long name, int temper, boolean barber, int keeping) {
            if (people < MAX_PEOPLE) {
                names[MAX_WORDS + people] = name;
                tempers[people] = temper;
                knows[people] = keeping;
                keeps[people] = keeping;
                barbers |= barber ? 1 << people : 0;
                for (int w = 0; w < MAX_WORDS; w++) {
                    begun[people * MAX_WORDS + w] = date;
                    shorn[people * MAX_WORDS + w] = date;
                }
                people++;
            }
        }

        private void addDinner(int first, int second, int every) {
            if (dinners < MAX_DINNERS) {
                dinnerFacts[dinners * DINNER_FACTS] = first;
                dinnerFacts[dinners * DINNER_FACTS + 1] = second;
                dinnerFacts[dinners * DINNER_FACTS + 2] = every;
                dinners++;
            }
        }

        private void addHalves(int first, int second) {
            if (isWord(first) && isWord(second)) {
                otherHalves[first] |= 1 << second;
                otherHalves[second] |= 1 << first;
                halves++;
            }
        }

        private int dinnerFact(int d, int what) {
            boolean known = isDinner(d) && what >= 0 && what < DINNER_FACTS;
            return known ? dinnerFacts[d * DINNER_FACTS + what] : NONE;
        }

        private boolean isBarber(int p) {
            return isPerson(p) && (barbers >> p & 1) == 1;
        }

        private boolean isKnown(int p, int w) {
            return p >= 0 && p < people && p < MAX_PEOPLE && w >= 0 && w < words
                    && (knows[p] >> w & 1) == 1;
        }

        private boolean isKept(int p, int w) {
            return p >= 0 && p < people && p < MAX_PEOPLE && w >= 0 && w < words
                    && (keeps[p] >> w & 1) == 1;
        }

        private int knowersOf(int w) {
            int set = 0;
            for (int p = 0; p < people && p < MAX_PEOPLE; p++) {
                set |= (knows[p] >> w & 1) << p;
            }
            return set;
        }

        private int keepersOf(int w) {
            int set = 0;
            for (int p = 0; p < people && p < MAX_PEOPLE; p++) {
                set |= (keeps[p] >> w & 1) << p;
            }
            return set;
        }

        /** How long a STRAND is on a DAY that began on one, and was 0 long last on another one. */
        private int lengthOn(int day, int w, int beginning, int bare) {
            if (w < 0 || w >= MAX_WORDS) {
                return 0;
            }
            int greyDay = beginning + greys[w];
            int grownTill = day < greyDay ? day : greyDay;
            return grownTill > bare ? grows[w] * (grownTill - bare) : 0;
        }

        private int strandLength(int p, int w) {
            int at = p * MAX_WORDS + w;
            return isKept(p, w) ? lengthOn(date, w, begun[at], shorn[at]) : 0;
        }

        private int strandAge(int p, int w) {
            return isKept(p, w) ? Math.min(date - begun[p * MAX_WORDS + w], MAX_AGE) : 0;
        }

        private int hairOf(int p) {
            return isPerson(p) ? hairKept(p, keeps[p], 0) : 0;
        }

        private int allHair() {
            int hair = 0;
            for (int p = 0; p < people && p < MAX_PEOPLE; p++) {
                hair += hairOf(p);
            }
            return hair;
        }

        /** Of the WORDS in a set that a PERSON KEEPS that of the longest STRAND. */
        private int longestOf(int p, int set) {
            int best = NONE;
            int most = NONE;
            for (int w = 0; w < words && w < MAX_WORDS; w++) {
                if ((set >> w & 1) == 1 && isKept(p, w)) {
                    int at = p * MAX_WORDS + w;
                    int length = lengthOn(date, w, begun[at], shorn[at]);
                    best = length > most ? w : best;
                    most = Math.max(length, most);
                }
            }
            return best;
        }

        private boolean canSpeak(int p, int w, int to) {
            return isKept(p, w) && isPerson(to) && p != to && !isKnown(to, w);
        }

        private void speak(int p, int w, int to) {
            if (isPerson(p) && isWord(w) && isPerson(to)) {
                knows[to] |= 1 << w;
                keeps[p] &= ~(1 << w);
            }
        }

        private boolean canStart(int p, int w) {
            return isKnown(p, w) && !isKept(p, w);
        }

        private void startStrand(int p, int w) {
            if (isPerson(p) && isWord(w)) {
                keeps[p] |= 1 << w;
                begun[p * MAX_WORDS + w] = date;
                shorn[p * MAX_WORDS + w] = date;
            }
        }

        private boolean canTrim(int p, int barber) {
            return isPerson(p) && isBarber(barber) && p != barber;
        }

        /** CUT: the set of WORDS that the BARBER KNOWS anew. */
        private int trim(int p, int barber) {
            if (!isPerson(p) || !isPerson(barber)) {
                return 0;
            }
            int anew = 0;
            for (int w = 0; w < words && w < MAX_WORDS; w++) {
                if (isKept(p, w)) {
                    if (strandLength(p, w) >= heard && !isKnown(barber, w)) {
                        anew |= 1 << w;
                        knows[barber] |= 1 << w;
                        startStrand(barber, w);
                    }
                    shorn[p * MAX_WORDS + w] = date;
                }
            }
            cuts++;
            return anew;
        }

        /** So many DAYS go by: how many WORDS were SAID at DINNERS in them. */
        private int passDays(int days) {
            int before = saidAtDinners;
            for (int i = 0; i < days; i++) {
                date++;
                for (int d = 0; d < dinners && d < MAX_DINNERS; d++) {
                    int every = dinnerFacts[d * DINNER_FACTS + 2];
                    if (every > 0 && date % every == 0) {
                        int first = dinnerFacts[d * DINNER_FACTS];
                        int second = dinnerFacts[d * DINNER_FACTS + 1];
                        blurt(first, second);
                        blurt(second, first);
                    }
                }
            }
            return saidAtDinners - before;
        }

        /** In how many DAYS a DINNER is next; NONE if there is no such DINNER. */
        private int daysTillDinner(int d) {
            int every = dinnerFact(d, 2);
            return every > 0 ? every - date % every : NONE;
        }

        private void blurt(int p, int to) {
            if (!isPerson(p) || !isPerson(to)) {
                return;
            }
            int sayable = keeps[p] & ~knows[to];
            if (sayable != 0 && hairKept(p, keeps[p], 0) > tempers[p]) {
                speak(p, longestOf(p, sayable), to);
                saidAtDinners++;
            }
        }

        private boolean isAt(int d, int p) {
            return dinnerFact(d, 0) == p || dinnerFact(d, 1) == p;
        }

        /** All who share a DINNER with somebody of a set. */
        private int companions(int set) {
            int found = 0;
            for (int d = 0; d < dinners && d < MAX_DINNERS; d++) {
                int first = dinnerFact(d, 0);
                int second = dinnerFact(d, 1);
                found |= (set >> first & 1) << second;
                found |= (set >> second & 1) << first;
            }
            return found;
        }

        /** How long a PERSON's STRANDS of a set of WORDS, KEPT on, are in so many DAYS. */
        private int hairKept(int p, int set, int days) {
            int hair = 0;
            for (int w = 0; w < words && w < MAX_WORDS; w++) {
                if ((set >> w & 1) == 1 && isKept(p, w)) {
                    int at = p * MAX_WORDS + w;
                    hair += lengthOn(date + days, w, begun[at], shorn[at]);
                }
            }
            return hair;
        }

        private int quietest(int p, int days) {
            if (!isPerson(p)) {
                return 0;
            }
            int best = 0;
            int bestHair = 0;
            for (int set = 1; set <= keeps[p]; set++) {
                if ((set & keeps[p]) == set) {
                    int hair = hairKept(p, set, days);
                    int more = Integer.bitCount(set) - Integer.bitCount(best);
                    if (hair <= tempers[p] && (more > 0 || more == 0 && hair > bestHair)) {
                        best = set;
                        bestHair = hair;
                    }
                }
            }
            return best;
        }

        /** How long STRANDS of a set of WORDS, begun together, are together in so many DAYS. */
        private int grownTogether(int set, int days) {
            int sum = 0;
            for (int w = 0; w < words && w < MAX_WORDS; w++) {
                if ((set >> w & 1) == 1) {
                    sum += lengthOn(days, w, 0, 0);
                }
            }
            return sum;
        }
    }

    /** Reads a PROVINCE; what it was read into is of no use behind a FAULT. */
    private static final class ProvinceReader {
        private static final int FIRST_GROWS = 1;
        private static final int FIRST_GREY = 30;
        private static final int FIRST_TEMPER = 50;

        private static boolean readAll(Tokens t, Province p) {
            p.clear();
            // NONE till they are told: a second time is a FAULT.
            p.heard = NONE;
            p.odds = NONE;
            for (int i = 0; i < MAX_TAPE && !t.isEnd(); i++) {
                if (!readPart(t, p)) {
                    return false;
                }
            }
            p.heard = p.heard == NONE ? Province.FIRST_HEARD : p.heard;
            p.odds = p.odds == NONE ? Province.FIRST_ODDS : p.odds;
            return true;
        }

        private static boolean readPart(Tokens t, Province p) {
            int key = t.keyNext();
            switch (key) {
                case Tokens.HEARD:
                case Tokens.ODDS:
                    t.take();
                    return readRule(t, p, key);
                case Tokens.WORD:
                    t.take();
                    return p.words >= MAX_WORDS ? t.reject(6) : readWord(t, p);
                case Tokens.PERSON:
                    t.take();
                    return p.people >= MAX_PEOPLE ? t.reject(6) : readPerson(t, p);
                case Tokens.DINNER:
                    t.take();
                    return p.dinners >= MAX_DINNERS ? t.reject(6) : readDinner(t, p);
                case Tokens.HALVES:
                    t.take();
                    return p.halves >= MAX_HALVES ? t.reject(6) : readHalves(t, p);
                default:
                    return t.misfit();
            }
        }

        private static boolean readRule(Tokens t, Province p, int key) {
            boolean isHeard = key == Tokens.HEARD;
            if ((isHeard ? p.heard : p.odds) != NONE) {
                return t.reject(5);
            }
            int much = t.takeNumber(0, isHeard ? MAX_HEARD : MAX_ODDS);
            if (much == NONE || !t.takeClosing()) {
                return false;
            }
            if (isHeard) {
                p.heard = much;
            } else {
                p.odds = much;
            }
            return true;
        }

        /** A NAME that is not taken; NONE with a FAULT. */
        private static long takeNewName(Tokens t, Province p) {
            if (!t.takeName()) {
                return NONE;
            }
            long name = t.takenValue;
            if (p.findWord(name) != NONE || p.findPerson(name) != NONE) {
                t.reject(3);
                return NONE;
            }
            return name;
        }

        /** The NUMBER behind LETTERS that may stand there, or that without; NONE with a FAULT. */
        private static int takePerhaps(Tokens t, int key, int least, int most, int without) {
            if (t.keyNext() != key) {
                return without;
            }
            t.take();
            return t.takeNumber(least, most);
        }

        private static boolean readWord(Tokens t, Province p) {
            long name = takeNewName(t, p);
            if (name == NONE) {
                return false;
            }
            int growing = takePerhaps(t, Tokens.GROWS, 1, MAX_GROWS, FIRST_GROWS);
            if (growing == NONE) {
                return false;
            }
            int grey = takePerhaps(t, Tokens.GREY, 1, MAX_GREY, FIRST_GREY);
            if (grey == NONE || !t.takeClosing()) {
                return false;
            }
            p.addWord(name, growing, grey);
            return true;
        }

        private static boolean readPerson(Tokens t, Province p) {
            long name = takeNewName(t, p);
            if (name == NONE) {
                return false;
            }
            int temper = takePerhaps(t, Tokens.TEMPER, 0, MAX_TEMPER, FIRST_TEMPER);
            if (temper == NONE) {
                return false;
            }
            boolean barber = t.keyNext() == Tokens.BARBER;
            if (barber) {
                t.take();
            }
            int keeping = readKeeps(t, p);
            if (keeping == NONE || !t.takeClosing()) {
                return false;
            }
            p.addPerson(name, temper, barber, keeping);
            return true;
        }

        /** The set of WORDS behind keeps; NONE with a FAULT. */
        private static int readKeeps(Tokens t, Province p) {
            if (t.keyNext() != Tokens.KEEPS) {
                return 0;
            }
            t.take();
            int set = 0;
            for (int i = 0; i <= MAX_WORDS && !t.isSignNext(';'); i++) {
                int word = t.takeWord(p);
                if (word == NONE) {
                    return NONE;
                }
                if ((set >> word & 1) == 1) {
                    t.reject(5);
                    return NONE;
                }
                set |= 1 << word;
            }
            return set;
        }

        private static boolean readDinner(Tokens t, Province p) {
            int first = t.takePerson(p);
            if (first == NONE) {
                return false;
            }
            int second = t.takePerson(p);
            if (second == NONE) {
                return false;
            }
            if (first == second) {
                return t.reject(5);
            }
            if (!t.takeKey(Tokens.EVERY)) {
                return false;
            }
            int every = t.takeNumber(1, MAX_EVERY);
            if (every == NONE || !t.takeClosing()) {
                return false;
            }
            p.addDinner(first, second, every);
            return true;
        }

        private static boolean readHalves(Tokens t, Province p) {
            int first = t.takeWord(p);
            if (first == NONE) {
                return false;
            }
            int second = t.takeWord(p);
            if (second == NONE) {
                return false;
            }
            if (first == second) {
                return t.reject(5);
            }
            if (!t.takeClosing()) {
                return false;
            }
            p.addHalves(first, second);
            return true;
        }
    }

    /** YEARS as a row of orders: STEPS and the ends of their blocks, by their LETTERS' numbers. */
    private static final class Years {
        private static final int MAX_STEPS = 30;
        private static final int MAX_ORDERS = 2 * MAX_STEPS;
        private static final int MAX_DEPTH = 3;

        private final int[] ops = new int[MAX_ORDERS];
        private final int[] firsts = new int[MAX_ORDERS];
        private final int[] seconds = new int[MAX_ORDERS];
        private final int[] thirds = new int[MAX_ORDERS];
        /** Of a when, loop its end, and of an end what it ends. */
        private final int[] mates = new int[MAX_ORDERS];
        private int orders;
        private int steps;
        private boolean there;

        private void clear() {
            orders = 0;
            steps = 0;
            there = false;
        }

        private void copyFrom(Years y) {
            System.arraycopy(y.ops, 0, ops, 0, MAX_ORDERS);
            System.arraycopy(y.firsts, 0, firsts, 0, MAX_ORDERS);
            System.arraycopy(y.seconds, 0, seconds, 0, MAX_ORDERS);
            System.arraycopy(y.thirds, 0, thirds, 0, MAX_ORDERS);
            System.arraycopy(y.mates, 0, mates, 0, MAX_ORDERS);
            orders = y.orders;
            steps = y.steps;
            there = y.there;
        }

        private boolean isOrder(int at) {
            return at >= 0 && at < orders && at < MAX_ORDERS;
        }

        private boolean add(int op, int first, int second, int third) {
            if (orders < MAX_ORDERS) {
                ops[orders] = op;
                firsts[orders] = first;
                seconds[orders] = second;
                thirds[orders] = third;
                mates[orders] = NONE;
                orders++;
                steps += op == Tokens.CLOSE ? 0 : 1;
            }
            return true;
        }

        private void join(int beginning, int end) {
            if (isOrder(beginning) && isOrder(end)) {
                mates[beginning] = end;
                mates[end] = beginning;
            }
        }

        /** The latest when, loop that has no end yet; NONE if there is none. */
        private int latestOpen() {
            for (int i = Math.min(orders, MAX_ORDERS) - 1; i >= 0; i--) {
                if (isBlock(ops[i]) && mates[i] == NONE) {
                    return i;
                }
            }
            return NONE;
        }

        private int depth() {
            int open = 0;
            for (int i = 0; i < orders && i < MAX_ORDERS; i++) {
                open += isBlock(ops[i]) && mates[i] == NONE ? 1 : 0;
            }
            return open;
        }

        /** A when is told by its TEST's LETTERS. */
        private static boolean isBlock(int op) {
            return op == Tokens.KNOWS || op == Tokens.HAIR || op == Tokens.LOOP;
        }
    }

    /** Reads YEARS of a PROVINCE; what they were read into is of no use behind a FAULT. */
    private static final class YearsReader {
        private static final int MAX_STEP_DAYS = 20;
        private static final int MAX_HAIR = 9999;
        private static final int MAX_LOOPS = 99;

        private static boolean readAll(Tokens t, Province p, Years y) {
            y.clear();
            for (int i = 0; i < MAX_YEARS_TEXT && !t.isEnd(); i++) {
                if (!readStep(t, p, y)) {
                    return false;
                }
            }
            if (y.depth() > 0) {
                return t.misfit();
            }
            y.there = true;
            return true;
        }

        private static boolean readStep(Tokens t, Province p, Years y) {
            int key = t.keyNext();
            boolean opens = key == Tokens.WHEN || key == Tokens.LOOP;
            if (key == Tokens.CLOSE && y.depth() > 0) {
                t.take();
                return readEnd(t, y);
            }
            if (!opens && !isPlain(key)) {
                return t.misfit();
            }
            t.take();
            if (y.steps >= Years.MAX_STEPS) {
                return t.reject(6);
            }
            if (opens && y.depth() >= Years.MAX_DEPTH) {
                return t.reject(7);
            }
            return readOrder(t, p, y, key) && t.takeClosing();
        }

        private static boolean isPlain(int key) {
            return key == Tokens.DAY || key == Tokens.KEEP || key == Tokens.SAY
                    || key == Tokens.CUT || key == Tokens.ANY || key == Tokens.STOP;
        }

        private static boolean readEnd(Tokens t, Years y) {
            int beginning = y.latestOpen();
            y.add(Tokens.CLOSE, 0, 0, 0);
            y.join(beginning, y.orders - 1);
            return t.takeClosing();
        }

        private static boolean readOrder(Tokens t, Province p, Years y, int key) {
            switch (key) {
                case Tokens.DAY:
                    return readCount(t, y, key, MAX_STEP_DAYS);
                case Tokens.LOOP:
                    return readCount(t, y, key, MAX_LOOPS);
                case Tokens.KEEP:
                    return readPersonAndWord(t, p, y, key);
                case Tokens.SAY:
                    return readSaying(t, p, y);
                case Tokens.CUT:
                    return readCutting(t, p, y);
                case Tokens.WHEN:
                    if (t.keyNext() == Tokens.KNOWS) {
                        t.take();
                        return readPersonAndWord(t, p, y, Tokens.KNOWS);
                    }
                    return readHairTest(t, p, y);
                default:
                    return y.add(key, 0, 0, 0);
            }
        }

        private static boolean readCount(Tokens t, Years y, int key, int most) {
            int count = t.takeNumber(1, most);
            return count != NONE && y.add(key, count, 0, 0);
        }

        private static boolean readPersonAndWord(Tokens t, Province p, Years y, int key) {
            int person = t.takePerson(p);
            if (person == NONE) {
                return false;
            }
            int word = t.takeWord(p);
            return word != NONE && y.add(key, person, word, 0);
        }

        private static boolean readSaying(Tokens t, Province p, Years y) {
            int person = t.takePerson(p);
            if (person == NONE) {
                return false;
            }
            int word = t.takeWord(p);
            if (word == NONE || !t.takeKey(Tokens.TO)) {
                return false;
            }
            int to = t.takePerson(p);
            return to != NONE && y.add(Tokens.SAY, person, word, to);
        }

        private static boolean readCutting(Tokens t, Province p, Years y) {
            int person = t.takePerson(p);
            if (person == NONE || !t.takeKey(Tokens.BY)) {
                return false;
            }
            int barber = t.takePerson(p);
            return barber != NONE && y.add(Tokens.CUT, person, barber, 0);
        }

        private static boolean readHairTest(Tokens t, Province p, Years y) {
            if (!t.takeKey(Tokens.HAIR)) {
                return false;
            }
            int person = t.takePerson(p);
            if (person == NONE) {
                return false;
            }
            if (!t.isSignNext('<') && !t.isSignNext('>') && !t.isSignNext('=')) {
                return t.misfit();
            }
            int sign = (int) t.value;
            t.take();
            int much = t.takeNumber(0, MAX_HAIR);
            return much != NONE && y.add(Tokens.HAIR, person, sign, much);
        }
    }

    /** Lives YEARS on a PROVINCE. */
    private static final class Living {
        private static final int MISSED = 0;
        private static final int DAYS = 1;
        private static final int SAID = 2;
        private static final int CUTS = 3;
        private static final int LEFT = 4;
        private static final int FACTS = 5;

        private static final int MAX_STEPS_LIVED = 300;
        /** Behind each STEP stand at most three ends, since no empty loop is gone round. */
        private static final int MAX_ORDERS_LIVED = 4 * MAX_STEPS_LIVED + 4;

        private final int[] facts = new int[FACTS];
        private final int[] roundsLeft = new int[Years.MAX_ORDERS];
        private int steps;
        private int drawn;

        private void run(Province p, Years y, int seed) {
            for (int i = 0; i < FACTS; i++) {
                facts[i] = 0;
            }
            steps = 0;
            drawn = seed;
            int at = 0;
            for (int i = 0; i < MAX_ORDERS_LIVED && y.isOrder(at); i++) {
                if (y.ops[at] == Tokens.CLOSE) {
                    at = behindEnd(y, at);
                    continue;
                }
                if (steps >= MAX_STEPS_LIVED) {
                    facts[LEFT] = 1;
                    return;
                }
                steps++;
                if (y.ops[at] == Tokens.STOP) {
                    return;
                }
                at = Years.isBlock(y.ops[at]) ? behindBeginning(p, y, at) : behindPlain(p, y, at);
            }
        }

        private int behindEnd(Years y, int end) {
            int beginning = y.mates[end];
            if (!y.isOrder(beginning) || y.ops[beginning] != Tokens.LOOP) {
                return end + 1;
            }
            roundsLeft[beginning]--;
            return roundsLeft[beginning] > 0 ? beginning + 1 : end + 1;
        }

        private int behindBeginning(Province p, Years y, int at) {
            int end = y.mates[at];
            if (y.ops[at] != Tokens.LOOP) {
                return holds(p, y, at) ? at + 1 : end + 1;
            }
            roundsLeft[at] = y.firsts[at];
            return end == at + 1 ? end + 1 : at + 1;
        }

        private static boolean holds(Province p, Years y, int at) {
            if (y.ops[at] == Tokens.KNOWS) {
                return p.isKnown(y.firsts[at], y.seconds[at]);
            }
            int hair = p.hairOf(y.firsts[at]);
            int much = y.thirds[at];
            switch (y.seconds[at]) {
                case '<':
                    return hair < much;
                case '>':
                    return hair > much;
                default:
                    return hair == much;
            }
        }

        private int behindPlain(Province p, Years y, int at) {
            int first = y.firsts[at];
            int second = y.seconds[at];
            boolean can;
            switch (y.ops[at]) {
                case Tokens.DAY:
                    can = p.date + first <= LAST_DAY;
                    if (can) {
                        facts[SAID] += p.passDays(first);
                        facts[DAYS] += first;
                    }
                    break;
                case Tokens.KEEP:
                    can = begin(p, first, second);
                    break;
                case Tokens.SAY:
                    can = tellOn(p, first, second, y.thirds[at]);
                    break;
                case Tokens.CUT:
                    can = shear(p, first, second);
                    break;
                default:
                    can = anything(p);
                    break;
            }
            facts[MISSED] += can ? 0 : 1;
            return at + 1;
        }

        private boolean begin(Province p, int person, int word) {
            if (!p.canStart(person, word)) {
                return false;
            }
            p.startStrand(person, word);
            return true;
        }

        private boolean tellOn(Province p, int person, int word, int to) {
            if (!p.canSpeak(person, word, to)) {
                return false;
            }
            p.speak(person, word, to);
            facts[SAID]++;
            return true;
        }

        private boolean shear(Province p, int person, int barber) {
            if (!p.canTrim(person, barber)) {
                return false;
            }
            p.trim(person, barber);
            facts[CUTS]++;
            return true;
        }

        private boolean anything(Province p) {
            if (p.people == 0 || p.words == 0) {
                return false;
            }
            int person = draw(p.people);
            int word = draw(p.words);
            int to = draw(p.people);
            return tellOn(p, person, word, to);
        }

        private int draw(int n) {
            drawn = (drawn * 2971 + 10789) % 65536;
            return n > 0 ? drawn / 8 % n : 0;
        }
    }

    /** The sets of WORDS that fit what a TRAY tells. */
    private static final class Fits {
        private static final int MAX_SETS = 1 << MAX_WORDS;
        private static final int MAX_LENGTH = MAX_WORDS * MAX_GROWS * MAX_GREY;

        private final int[] sets = new int[MAX_SETS];
        private int size;
        /** Of each set, whether it fits or not: how long it is in the DAYS that were measured last. */
        private final int[] lengths = new int[MAX_SETS];
        /** A bit for each length. */
        private final long[] seen = new long[MAX_LENGTH / 64 + 1];

        private void startAll(Province p) {
            size = 0;
            for (int set = 0; set < MAX_SETS && set < 1 << p.words; set++) {
                sets[size] = set;
                size++;
            }
        }

        /** Each set is as long as that without its last WORD, and this WORD; that of none is 0 long. */
        private void measure(Province p, int days) {
            for (int w = 0; w < p.words && w < MAX_WORDS; w++) {
                int growth = p.lengthOn(days, w, 0, 0);
                for (int set = 0; set < 1 << w; set++) {
                    lengths[set | 1 << w] = lengths[set] + growth;
                }
            }
        }

        private void sift(Province p, int days, long length) {
            measure(p, days);
            int left = 0;
            for (int i = 0; i < size && i < MAX_SETS; i++) {
                if (lengths[sets[i]] == length) {
                    sets[left] = sets[i];
                    left++;
                }
            }
            size = left;
        }

        private int common() {
            int set = MAX_SETS - 1;
            for (int i = 0; i < size && i < MAX_SETS; i++) {
                set &= sets[i];
            }
            return set;
        }

        private int tellingDays(Province p) {
            int best = 0;
            int most = 0;
            // There are no more unlike lengths than sets.
            for (int d = 1; d <= MAX_ASKED_DAYS && most < size; d++) {
                measure(p, d);
                int unlike = unlikeLengths();
                if (unlike > most) {
                    most = unlike;
                    best = d;
                }
            }
            return best;
        }

        private int unlikeLengths() {
            for (int i = 0; i < seen.length; i++) {
                seen[i] = 0;
            }
            int unlike = 0;
            for (int i = 0; i < size && i < MAX_SETS; i++) {
                int length = lengths[sets[i]];
                int at = length / 64;
                if (at >= 0 && at < seen.length && (seen[at] >> length % 64 & 1) == 0) {
                    seen[at] |= 1L << length % 64;
                    unlike++;
                }
            }
            return unlike;
        }
    }

    /** Which PEOPLE one BARBER can CUT, and how few BARBERS do. */
    private static final class Rounds {
        private static final int MAX_SETS = 1 << MAX_PEOPLE;

        /** Of each set of PEOPLE: how few BARBERS do. */
        private final int[] fewest = new int[MAX_SETS];

        /** Whether one who hears all that these PEOPLE KEEP hears no two HALVES. */
        private static boolean isSafe(Province p, int people) {
            int heard = 0;
            for (int i = 0; i < MAX_PEOPLE; i++) {
                heard |= (people >> i & 1) == 1 ? p.keeps[i] : 0;
            }
            for (int w = 0; w < MAX_WORDS; w++) {
                if ((heard >> w & 1) == 1 && (heard & p.otherHalves[w]) != 0) {
                    return false;
                }
            }
            return true;
        }

        /** NONE if one of them KEEPS both HALVES. */
        private int fewestBarbers(Province p, int people) {
            for (int i = 0; i < MAX_PEOPLE; i++) {
                if (!isSafe(p, people & 1 << i)) {
                    return NONE;
                }
            }
            fewest[0] = 0;
            for (int set = 1; set < MAX_SETS && set <= people; set++) {
                if ((set & people) == set) {
                    fewest[set] = fewestOf(p, set);
                }
            }
            return people >= 0 && people < MAX_SETS ? fewest[people] : NONE;
        }

        private int fewestOf(Province p, int set) {
            int best = MAX_PEOPLE;
            for (int part = 1; part <= set && part < MAX_SETS; part++) {
                if ((part & set) == part && isSafe(p, part)) {
                    best = Math.min(best, 1 + fewest[set & ~part]);
                }
            }
            return best;
        }

        private int greatestRound(Province p) {
            int best = 0;
            for (int set = 1; set < MAX_SETS && set < 1 << p.people; set++) {
                if (Integer.bitCount(set) > Integer.bitCount(best) && isSafe(p, set)) {
                    best = set;
                }
            }
            return best;
        }
    }

    /** The orders in which a PLAIT can have been made. */
    private static final class Plait {
        private static final int MAX_SETS = 1 << MAX_WORDS;

        /** Of each WORD the set of those that must lie ahead of it. */
        private final int[] ahead = new int[MAX_WORDS];
        /** Of each set: in how many orders it can lie first. */
        private final int[] ways = new int[MAX_SETS];

        private void clear() {
            for (int w = 0; w < MAX_WORDS; w++) {
                ahead[w] = 0;
            }
        }

        private void putAhead(int words, int first, int second) {
            boolean asked = within(first, 0, MAX_WORDS - 1) && within(second, 0, MAX_WORDS - 1)
                    && (words >> first & 1) == 1 && (words >> second & 1) == 1;
            if (asked) {
                ahead[second] |= 1 << first;
            }
        }

        private boolean canFollow(int words, int laid, int w) {
            return (words & ~laid & 1 << w) != 0 && (ahead[w] & ~laid) == 0;
        }

        private int orders(int words) {
            for (int set = 0; set < MAX_SETS; set++) {
                ways[set] = 0;
            }
            ways[0] = 1;
            for (int set = 0; set < MAX_SETS; set++) {
                for (int w = 0; w < MAX_WORDS && ways[set] > 0; w++) {
                    if (canFollow(words, set, w)) {
                        ways[set | 1 << w] += ways[set];
                    }
                }
            }
            return words >= 0 && words < MAX_SETS ? ways[words] : 0;
        }

        /** The WORD in a place of the first order by WORDS; NONE if there is no order or place. */
        private int firstOrderAt(int words, int k) {
            int laid = 0;
            int found = NONE;
            for (int place = 0; place < MAX_WORDS && laid != words; place++) {
                int next = firstFollowing(words, laid);
                if (next == NONE) {
                    return NONE;
                }
                found = place == k ? next : found;
                laid |= 1 << next;
            }
            return found;
        }

        private int firstFollowing(int words, int laid) {
            for (int w = 0; w < MAX_WORDS; w++) {
                if (canFollow(words, laid, w)) {
                    return w;
                }
            }
            return NONE;
        }
    }

    /** A GAME of two; each turn has a level of its own, so that none is taken back. */
    private static final class Duel {
        private static final int SIDES = 2;
        private static final int HEADS = (MAX_GAME_TURNS + 1) * SIDES;

        /** Level by level: the first, the second. */
        private final int[] knows = new int[HEADS];
        private final int[] keeps = new int[HEADS];
        private final int[] begun = new int[HEADS * MAX_WORDS];
        private final int[] shorn = new int[HEADS * MAX_WORDS];
        /** The first's first WORD by best play; NONE if he says nothing. */
        private int opening;

        private int play(Province p, int first, int second, int turns) {
            opening = NONE;
            if (!p.isPerson(first) || !p.isPerson(second)) {
                return 0;
            }
            seat(p, first, 0);
            seat(p, second, 1);
            return best(this, p, 0, turns);
        }

        private void seat(Province p, int person, int head) {
            knows[head] = p.knows[person];
            keeps[head] = p.keeps[person];
            System.arraycopy(p.begun, person * MAX_WORDS, begun, head * MAX_WORDS, MAX_WORDS);
            System.arraycopy(p.shorn, person * MAX_WORDS, shorn, head * MAX_WORDS, MAX_WORDS);
        }

        private static int best(Duel d, Province p, int level, int turns) {
            int head = level * SIDES;
            if (level >= turns || level >= MAX_GAME_TURNS) {
                return d.hairAt(p, level, 1) - d.hairAt(p, level, 0);
            }
            int side = level % SIDES;
            int best = 0;
            boolean found = false;
            // Behind all WORDS comes saying nothing.
            for (int w = 0; w <= p.words; w++) {
                if (w < p.words && !d.canSay(head + side, head + 1 - side, w)) {
                    continue;
                }
                d.turn(p, level, w);
                int value = best(d, p, level + 1, turns);
                if (!found || (side == 0 ? value > best : value < best)) {
                    found = true;
                    best = value;
                    if (level == 0) {
                        d.opening = w < p.words ? w : NONE;
                    }
                }
            }
            return best;
        }

        private boolean canSay(int from, int to, int w) {
            return (keeps[from] >> w & 1) == 1 && (knows[to] >> w & 1) == 0;
        }

        /** The next level as it is behind a turn. */
        private void turn(Province p, int level, int w) {
            int side = level % SIDES;
            int nextHead = (level + 1) * SIDES;
            for (int i = 0; i < SIDES; i++) {
                copyHead(level * SIDES + i, nextHead + i);
            }
            if (w < p.words) {
                pass(nextHead + side, nextHead + 1 - side, w, p.date + level);
            }
        }

        private void copyHead(int from, int to) {
            knows[to] = knows[from];
            keeps[to] = keeps[from];
            System.arraycopy(begun, from * MAX_WORDS, begun, to * MAX_WORDS, MAX_WORDS);
            System.arraycopy(shorn, from * MAX_WORDS, shorn, to * MAX_WORDS, MAX_WORDS);
        }

        private void pass(int from, int to, int w, int date) {
            keeps[from] &= ~(1 << w);
            knows[to] |= 1 << w;
            keeps[to] |= 1 << w;
            begun[to * MAX_WORDS + w] = date;
            shorn[to * MAX_WORDS + w] = date;
        }

        /** A turn is a DAY: so many have gone by. */
        private int hairAt(Province p, int level, int side) {
            int head = level * SIDES + side;
            int hair = 0;
            for (int w = 0; w < p.words && w < MAX_WORDS; w++) {
                if ((keeps[head] >> w & 1) == 1) {
                    int at = head * MAX_WORDS + w;
                    hair += p.lengthOn(p.date + level, w, begun[at], shorn[at]);
                }
            }
            return hair;
        }
    }
}
