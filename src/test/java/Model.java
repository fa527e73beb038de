import java.util.ArrayDeque;
import java.util.ArrayList;
import java.util.Arrays;
import java.util.Deque;
import java.util.HashSet;
import java.util.LinkedHashMap;
import java.util.List;
import java.util.Map;
import java.util.Set;
import java.util.TreeMap;
import java.util.TreeSet;
import java.util.regex.Matcher;
import java.util.regex.Pattern;

/**
 * The document once more, written apart from the class and as slowly as it likes, so that
 * ModelTest can hold the two against each other. A call that has another STATUS than 0 throws Not.
 */
final class Model {
    static final class Not extends RuntimeException {
        final int status;

        Not(int status) {
            super(null, null, false, false);
            this.status = status;
        }
    }

    static final class Fault extends RuntimeException {
        final int kind;
        final int place;

        Fault(int kind, int place) {
            super(null, null, false, false);
            this.kind = kind;
            this.place = place;
        }
    }

    static final class Stop extends RuntimeException {
        final boolean left;

        Stop(boolean left) {
            super(null, null, false, false);
            this.left = left;
        }
    }

    record Word(String name, int grows, int grey) {
    }

    static final class Person {
        String name;
        int temper = 50;
        boolean barber;
        Set<Integer> knows = new TreeSet<>();
        /** By WORD: length, age. */
        Map<Integer, int[]> strands = new TreeMap<>();

        Person copy() {
            Person p = new Person();
            p.name = name;
            p.temper = temper;
            p.barber = barber;
            p.knows.addAll(knows);
            strands.forEach((w, s) -> p.strands.put(w, s.clone()));
            return p;
        }

        int hair() {
            return strands.values().stream().mapToInt(s -> s[0]).sum();
        }
    }

    /** A STEP: its LETTERS, its numbers, and what stands within. */
    record Node(String what, String sign, int[] args, List<Node> body) {
    }

    static final class State {
        int heard = 3;
        int odds = 1;
        int day;
        int said;
        int cuts;
        List<Word> words = new ArrayList<>();
        List<Person> people = new ArrayList<>();
        List<int[]> dinners = new ArrayList<>();
        List<int[]> halves = new ArrayList<>();
        List<Node> years;

        State copy() {
            State s = new State();
            s.heard = heard;
            s.odds = odds;
            s.day = day;
            s.said = said;
            s.cuts = cuts;
            s.words.addAll(words);
            people.forEach(p -> s.people.add(p.copy()));
            s.dinners.addAll(dinners);
            s.halves.addAll(halves);
            s.years = years;
            return s;
        }

        void grow(Person p) {
            p.strands.forEach((w, s) -> {
                if (s[1] < words.get(w).grey()) {
                    s[0] += words.get(w).grows();
                }
                if (s[1] < 999) {
                    s[1]++;
                }
            });
        }

        int pass(int days) {
            int saidNow = 0;
            for (int i = 0; i < days; i++) {
                people.forEach(this::grow);
                day++;
                for (int[] d : dinners) {
                    if (day % d[2] == 0) {
                        saidNow += talk(people.get(d[0]), people.get(d[1]));
                        saidNow += talk(people.get(d[1]), people.get(d[0]));
                    }
                }
            }
            said += saidNow;
            return saidNow;
        }

        int talk(Person a, Person b) {
            if (a.hair() <= a.temper) {
                return 0;
            }
            Integer best = null;
            for (int w : a.strands.keySet()) {
                if (!b.knows.contains(w) && (best == null || a.strands.get(w)[0] > a.strands.get(best)[0])) {
                    best = w;
                }
            }
            if (best == null) {
                return 0;
            }
            a.strands.remove(best);
            b.knows.add(best);
            return 1;
        }

        boolean say(int a, int w, int b) {
            Person p = people.get(a);
            if (!p.strands.containsKey(w) || a == b || people.get(b).knows.contains(w)) {
                return false;
            }
            p.strands.remove(w);
            people.get(b).knows.add(w);
            return true;
        }

        boolean keep(int a, int w) {
            Person p = people.get(a);
            if (!p.knows.contains(w) || p.strands.containsKey(w)) {
                return false;
            }
            p.strands.put(w, new int[2]);
            return true;
        }

        /** The set that is new, or -1. */
        int cut(int a, int b) {
            Person p = people.get(a);
            Person barber = people.get(b);
            if (!barber.barber || a == b) {
                return -1;
            }
            int set = 0;
            for (Map.Entry<Integer, int[]> e : p.strands.entrySet()) {
                if (e.getValue()[0] >= heard && barber.knows.add(e.getKey())) {
                    barber.strands.put(e.getKey(), new int[2]);
                    set |= 1 << e.getKey();
                }
                e.getValue()[0] = 0;
            }
            cuts++;
            return set;
        }

        int hair() {
            return people.stream().mapToInt(Person::hair).sum();
        }
    }

    static final Set<String> RESERVED = new HashSet<>(Arrays.asList(("heard odds word grows grey person temper "
            + "barber keeps dinner every halves day keep say to cut by any when knows hair loop end stop").split(" ")));

    int status;
    long top = 0;
    long bottom = 1;
    final long[][] rows = new long[4][];
    final int[] sorts = new int[4];
    String tape = "";
    State st = new State();
    final Deque<State> marks = new ArrayDeque<>();
    int faultKind = -1;
    int faultPlace = -1;
    int[] lived;

    static void need(boolean holds, int status) {
        if (!holds) {
            throw new Not(status);
        }
    }

    static boolean in(long v, long a, long b) {
        return a <= v && v <= b;
    }

    static int bits(Iterable<Integer> set) {
        int m = 0;
        for (int w : set) {
            m |= 1 << w;
        }
        return m;
    }

    void fraction(long a, long b) {
        java.math.BigInteger g = java.math.BigInteger.valueOf(a).gcd(java.math.BigInteger.valueOf(b));
        top = a / g.longValue();
        bottom = b / g.longValue();
    }

    void needWord(int w) {
        need(in(w, 0, st.words.size() - 1), 2);
    }

    void needPerson(int p) {
        need(in(p, 0, st.people.size() - 1), 2);
    }

    void needTray(int t) {
        need(in(t, 0, 3), 1);
    }

    void needRow(int t) {
        needTray(t);
        need(rows[t] != null, 3);
    }

    // ---- TRAYS

    long tray(int t, int sort, int many) {
        needTray(t);
        need(in(sort, 0, 3), 1);
        need(many <= 60, 5);
        need(many >= 0, 6);
        rows[t] = new long[many];
        sorts[t] = sort;
        return 1;
    }

    void put(int t, int place, long v) {
        int shift = 64 - (8 << sorts[t]);
        rows[t][place] = v << shift >> shift;
    }

    long write(int t, int place, long v) {
        needRow(t);
        need(in(place, 0, rows[t].length - 1), 4);
        put(t, place, v);
        return 1;
    }

    long read(int t, int place) {
        needRow(t);
        need(in(place, 0, rows[t].length - 1), 4);
        return rows[t][place];
    }

    long pour(int t, int i, int to, int j, int many) {
        needTray(t);
        needTray(to);
        needRow(t);
        needRow(to);
        need(sorts[t] == sorts[to], 11);
        need(many >= 0, 6);
        need(i >= 0 && j >= 0 && (long) i + many <= rows[t].length && (long) j + many <= rows[to].length, 4);
        long[] copy = Arrays.copyOfRange(rows[t], i, i + many);
        for (int k = 0; k < many; k++) {
            rows[to][j + k] = copy[k];
        }
        return 1;
    }

    // ---- texts

    long feed(int a, int b, int c, int d, int e) {
        if (tape.length() + 20 > 900) {
            return -1;
        }
        StringBuilder s = new StringBuilder(tape);
        for (int v : new int[] {a, b, c, d, e}) {
            for (int k = 3; k >= 0; k--) {
                s.append((char) (v >>> 8 * k & 255));
            }
        }
        tape = s.toString();
        return tape.length();
    }

    /** A text's TOKENS, and who reads them. */
    final class Reader {
        final List<String> tokens = new ArrayList<>();
        final List<Integer> places = new ArrayList<>();
        int at = 0;
        final State s;
        int steps = 0;

        Reader(String text, State s) {
            this.s = s;
            Matcher m = Pattern.compile("[a-z]+|[0-9]+|[;<>=]|[^\\n ]").matcher(text);
            while (m.find()) {
                tokens.add(m.group());
                places.add(m.start());
            }
            tokens.add("");
            places.add(text.length());
        }

        String peek() {
            String t = tokens.get(at);
            if (!t.isEmpty() && !t.matches("[a-z]+|[0-9]{1,4}|[;<>=]")) {
                throw new Fault(1, places.get(at));
            }
            return t;
        }

        Fault here(int kind) {
            return new Fault(kind, places.get(at));
        }

        void must(String t) {
            if (!peek().equals(t)) {
                throw here(2);
            }
            at++;
        }

        boolean perhaps(String t) {
            boolean is = peek().equals(t);
            if (is) {
                at++;
            }
            return is;
        }

        int number(int a, int b) {
            if (!peek().matches("[0-9]+")) {
                throw here(2);
            }
            int v = Integer.parseInt(peek());
            if (!in(v, a, b)) {
                throw here(4);
            }
            at++;
            return v;
        }

        /** Looks at a NAME, and leaves it there. */
        String name() {
            if (!peek().matches("[a-z]{1,8}") || RESERVED.contains(peek())) {
                throw here(2);
            }
            return peek();
        }

        int indexOfWord(String n) {
            for (int i = 0; i < s.words.size(); i++) {
                if (s.words.get(i).name().equals(n)) {
                    return i;
                }
            }
            return -1;
        }

        int indexOfPerson(String n) {
            for (int i = 0; i < s.people.size(); i++) {
                if (s.people.get(i).name.equals(n)) {
                    return i;
                }
            }
            return -1;
        }

        int oldWord() {
            int w = indexOfWord(name());
            if (w < 0) {
                throw here(3);
            }
            at++;
            return w;
        }

        int oldPerson() {
            int p = indexOfPerson(name());
            if (p < 0) {
                throw here(3);
            }
            at++;
            return p;
        }

        String newName() {
            String n = name();
            if (indexOfWord(n) >= 0 || indexOfPerson(n) >= 0) {
                throw here(3);
            }
            at++;
            return n;
        }

        void other(int first, int second) {
            if (first == second) {
                at--;
                throw here(5);
            }
        }

        void room(List<?> list, int most) {
            if (list.size() >= most) {
                throw here(6);
            }
            at++;
        }

        void province() {
            boolean heard = false;
            boolean odds = false;
            while (!peek().isEmpty()) {
                switch (peek()) {
                    case "heard" -> {
                        if (heard) {
                            throw here(5);
                        }
                        heard = true;
                        at++;
                        s.heard = number(0, 99);
                    }
                    case "odds" -> {
                        if (odds) {
                            throw here(5);
                        }
                        odds = true;
                        at++;
                        s.odds = number(0, 16);
                    }
                    case "word" -> {
                        room(s.words, 8);
                        String n = newName();
                        int grows = perhaps("grows") ? number(1, 9) : 1;
                        int grey = perhaps("grey") ? number(1, 99) : 30;
                        s.words.add(new Word(n, grows, grey));
                    }
                    case "person" -> person();
                    case "dinner" -> {
                        room(s.dinners, 6);
                        int a = oldPerson();
                        int b = oldPerson();
                        other(a, b);
                        must("every");
                        s.dinners.add(new int[] {a, b, number(1, 30)});
                    }
                    case "halves" -> {
                        room(s.halves, 6);
                        int a = oldWord();
                        int b = oldWord();
                        other(a, b);
                        s.halves.add(new int[] {a, b});
                    }
                    default -> throw here(2);
                }
                must(";");
            }
        }

        void person() {
            room(s.people, 6);
            Person p = new Person();
            p.name = newName();
            if (perhaps("temper")) {
                p.temper = number(0, 999);
            }
            p.barber = perhaps("barber");
            if (perhaps("keeps")) {
                while (!peek().equals(";")) {
                    int w = oldWord();
                    if (!p.knows.add(w)) {
                        at--;
                        throw here(5);
                    }
                    p.strands.put(w, new int[2]);
                }
            }
            s.people.add(p);
        }

        List<Node> steps(int depth) {
            List<Node> list = new ArrayList<>();
            while (true) {
                String k = peek();
                if (depth == 0 && k.isEmpty() || depth > 0 && k.equals("end")) {
                    return list;
                }
                if (!Set.of("day", "keep", "say", "cut", "any", "when", "loop", "stop").contains(k)) {
                    throw here(2);
                }
                if (steps == 30) {
                    throw here(6);
                }
                if (Set.of("when", "loop").contains(k) && depth == 3) {
                    throw here(7);
                }
                steps++;
                at++;
                list.add(step(k, depth));
            }
        }

        Node step(String k, int depth) {
            int[] args = new int[3];
            String what = k;
            String sign = "";
            switch (k) {
                case "day" -> args[0] = number(1, 20);
                case "loop" -> args[0] = number(1, 99);
                case "keep" -> {
                    args[0] = oldPerson();
                    args[1] = oldWord();
                }
                case "say" -> {
                    args[0] = oldPerson();
                    args[1] = oldWord();
                    must("to");
                    args[2] = oldPerson();
                }
                case "cut" -> {
                    args[0] = oldPerson();
                    must("by");
                    args[1] = oldPerson();
                }
                case "when" -> {
                    what = peek();
                    if (perhaps("knows")) {
                        args[0] = oldPerson();
                        args[1] = oldWord();
                    } else {
                        must("hair");
                        args[0] = oldPerson();
                        sign = peek();
                        if (!sign.matches("[<>=]")) {
                            throw here(2);
                        }
                        at++;
                        args[1] = number(0, 9999);
                    }
                }
                default -> {
                }
            }
            must(";");
            List<Node> body = null;
            if (k.equals("when") || k.equals("loop")) {
                body = steps(depth + 1);
                must("end");
                must(";");
            }
            return new Node(what, sign, args, body);
        }
    }

    long province(int n) {
        need(in(n, 0, tape.length()), 5);
        State s = new State();
        String text = tape.substring(0, n);
        tape = "";
        try {
            new Reader(text, s).province();
        } catch (Fault f) {
            faultKind = f.kind;
            faultPlace = f.place;
            throw new Not(10);
        }
        faultKind = 0;
        faultPlace = -1;
        st = s;
        return st.people.size();
    }

    long years(int n) {
        need(in(n, 0, Math.min(300, tape.length())), 5);
        String text = tape.substring(0, n);
        tape = "";
        Reader r = new Reader(text, st);
        try {
            st.years = r.steps(0);
        } catch (Fault f) {
            faultKind = f.kind;
            faultPlace = f.place;
            throw new Not(10);
        }
        faultKind = 0;
        faultPlace = -1;
        return r.steps;
    }

    long fault(int what) {
        return what == 0 ? faultKind : what == 1 ? faultPlace : -1;
    }

    long many(int what) {
        need(in(what, 0, 10), 5);
        int barbers = 0;
        for (int p = 0; p < st.people.size(); p++) {
            barbers |= st.people.get(p).barber ? 1 << p : 0;
        }
        return new long[] {st.words.size(), st.people.size(), st.dinners.size(), st.halves.size(), st.heard,
            st.odds, st.day, barbers, st.said, st.cuts, st.hair()}[what];
    }

    int knowers(State s, int w) {
        int m = 0;
        for (int p = 0; p < s.people.size(); p++) {
            m |= s.people.get(p).knows.contains(w) ? 1 << p : 0;
        }
        return m;
    }

    int keepers(int w) {
        int m = 0;
        for (int p = 0; p < st.people.size(); p++) {
            m |= st.people.get(p).strands.containsKey(w) ? 1 << p : 0;
        }
        return m;
    }

    long word(int w, int what) {
        needWord(w);
        need(in(what, 0, 4), 5);
        int half = 0;
        for (int[] h : st.halves) {
            half |= h[0] == w ? 1 << h[1] : h[1] == w ? 1 << h[0] : 0;
        }
        return new long[] {st.words.get(w).grows(), st.words.get(w).grey(), knowers(st, w), keepers(w), half}[what];
    }

    long person(int p, int what) {
        needPerson(p);
        need(in(what, 0, 4), 5);
        Person q = st.people.get(p);
        return new long[] {q.temper, q.barber ? 1 : 0, bits(q.knows), bits(q.strands.keySet()), q.hair()}[what];
    }

    long strand(int p, int w, int what) {
        needPerson(p);
        needWord(w);
        need(in(what, 0, 1), 5);
        int[] s = st.people.get(p).strands.get(w);
        need(s != null, 8);
        return s[what];
    }

    long dinner(int d, int what) {
        need(in(d, 0, st.dinners.size() - 1), 2);
        need(in(what, 0, 2), 5);
        return st.dinners.get(d)[what];
    }

    long longest(int p) {
        needPerson(p);
        Map<Integer, int[]> strands = st.people.get(p).strands;
        need(!strands.isEmpty(), 8);
        int most = strands.values().stream().mapToInt(s -> s[0]).max().getAsInt();
        return strands.keySet().stream().filter(w -> strands.get(w)[0] == most).findFirst().get();
    }

    long copyHair(int t) {
        needRow(t);
        need(rows[t].length >= st.people.size(), 4);
        for (int p = 0; p < st.people.size(); p++) {
            put(t, p, st.people.get(p).hair());
        }
        return st.people.size();
    }

    // ---- what is done

    long day(int days) {
        need(in(days, 1, 99), 5);
        need(st.day + days <= 9999, 7);
        return st.pass(days);
    }

    long say(int p, int w, int o) {
        needPerson(p);
        needWord(w);
        needPerson(o);
        need(st.say(p, w, o), 9);
        return st.people.get(p).hair();
    }

    long keep(int p, int w) {
        needPerson(p);
        needWord(w);
        need(st.keep(p, w), 9);
        return st.people.get(p).strands.size();
    }

    long learn(int p, int w) {
        needPerson(p);
        needWord(w);
        need(st.people.get(p).knows.add(w), 9);
        return Integer.bitCount(knowers(st, w));
    }

    long cut(int p, int b) {
        needPerson(p);
        needPerson(b);
        int set = st.cut(p, b);
        need(set >= 0, 9);
        return set;
    }

    long train(int p, int temper) {
        needPerson(p);
        need(in(temper, 0, 999), 5);
        st.people.get(p).temper = temper;
        return 1;
    }

    long trade(int p, boolean barber) {
        needPerson(p);
        need(st.people.get(p).barber != barber, 9);
        st.people.get(p).barber = barber;
        return 1;
    }

    long rule(int what, int much) {
        need(in(what, 4, 5), 5);
        need(in(much, 0, what == 4 ? 99 : 16), 5);
        if (what == 4) {
            st.heard = much;
        } else {
            st.odds = much;
        }
        return 1;
    }

    long invite(int p, int o, int every) {
        needPerson(p);
        needPerson(o);
        need(in(every, 1, 30) && p != o, 5);
        need(st.dinners.size() < 6, 7);
        st.dinners.add(new int[] {p, o, every});
        return st.dinners.size() - 1;
    }

    long cancel() {
        need(!st.dinners.isEmpty(), 8);
        st.dinners.remove(st.dinners.size() - 1);
        return st.dinners.size();
    }

    // ---- DAYS ahead

    State ahead(int days) {
        State s = st.copy();
        s.pass(days);
        return s;
    }

    long hairIn(int p, int days) {
        needPerson(p);
        need(in(days, 0, 200), 5);
        return ahead(days).people.get(p).hair();
    }

    long knownIn(int p, int days) {
        needPerson(p);
        need(in(days, 0, 200), 5);
        return bits(ahead(days).people.get(p).knows);
    }

    long out(int w) {
        needWord(w);
        State s = st.copy();
        for (int d = 1; d <= 200; d++) {
            s.pass(1);
            if (Integer.bitCount(knowers(s, w)) > Integer.bitCount(knowers(st, w))) {
                return d;
            }
        }
        throw new Not(8);
    }

    long learnsIn(int p, int w) {
        needPerson(p);
        needWord(w);
        State s = st.copy();
        for (int d = 0; d <= 200; d++, s.pass(1)) {
            if (s.people.get(p).knows.contains(w)) {
                return d;
            }
        }
        throw new Not(8);
    }

    long wildIn(int p) {
        needPerson(p);
        State s = st.copy();
        for (int d = 0; d <= 200; d++, s.pass(1)) {
            if (s.people.get(p).hair() > s.people.get(p).temper) {
                return d;
            }
        }
        throw new Not(8);
    }

    long dinesIn(int p) {
        needPerson(p);
        for (int d = 1; d <= 30; d++) {
            for (int[] dinner : st.dinners) {
                if ((dinner[0] == p || dinner[1] == p) && (st.day + d) % dinner[2] == 0) {
                    return d;
                }
            }
        }
        throw new Not(8);
    }

    /** The best set, its HAIR. */
    int[] quietly(int p, int days) {
        needPerson(p);
        need(in(days, 0, 200), 5);
        int kept = bits(st.people.get(p).strands.keySet());
        int[] best = null;
        for (int set = 0; set < 256; set++) {
            if ((set & ~kept) != 0) {
                continue;
            }
            State s = st.copy();
            s.dinners.clear();
            final int on = set;
            s.people.get(p).strands.keySet().removeIf(w -> (on >> w & 1) == 0);
            s.pass(days);
            int hair = s.people.get(p).hair();
            if (hair > s.people.get(p).temper) {
                continue;
            }
            int[] now = {set, hair};
            if (best == null || Integer.bitCount(set) > Integer.bitCount(best[0])
                    || Integer.bitCount(set) == Integer.bitCount(best[0]) && hair > best[1]) {
                best = now;
            }
        }
        return best;
    }

    long quiet(int p, int days) {
        return quietly(p, days)[0];
    }

    long quietHair(int p, int days) {
        return quietly(p, days)[1];
    }

    // ---- what is unsaid

    int length(int set, int days) {
        int sum = 0;
        for (int w = 0; w < st.words.size(); w++) {
            for (int d = 0; d < days && (set >> w & 1) == 1; d++) {
                sum += d < st.words.get(w).grey() ? st.words.get(w).grows() : 0;
            }
        }
        return sum;
    }

    void needTwos(int t, int n) {
        needRow(t);
        need(rows[t].length / 2 >= n, 4);
        need(in(n, 0, 20), 5);
    }

    List<Integer> fitting(int t, int n) {
        needTwos(t, n);
        for (int i = 0; i < n; i++) {
            need(in(rows[t][2 * i], 0, 999) && rows[t][2 * i + 1] >= 0, 5);
        }
        List<Integer> sets = new ArrayList<>();
        for (int set = 0; set < 1 << st.words.size(); set++) {
            boolean fits = true;
            for (int i = 0; i < n; i++) {
                fits &= length(set, (int) rows[t][2 * i]) == rows[t][2 * i + 1];
            }
            if (fits) {
                sets.add(set);
            }
        }
        return sets;
    }

    long unsaid(int t, int n) {
        return fitting(t, n).size();
    }

    long sure(int t, int n) {
        List<Integer> sets = fitting(t, n);
        need(!sets.isEmpty(), 8);
        return sets.stream().reduce((a, b) -> a & b).get();
    }

    long ask(int t, int n) {
        List<Integer> sets = fitting(t, n);
        need(sets.size() >= 2, 8);
        Map<Integer, Integer> first = new LinkedHashMap<>();
        for (int d = 1; d <= 99; d++) {
            Set<Integer> lengths = new HashSet<>();
            for (int set : sets) {
                lengths.add(length(set, d));
            }
            first.putIfAbsent(lengths.size(), d);
        }
        return first.get(first.keySet().stream().max(Integer::compare).get());
    }

    void needWords(int set) {
        need(in(set, 0, (1 << st.words.size()) - 1), 5);
    }

    long lengthOf(int set, int days) {
        needWords(set);
        need(in(days, 0, 999), 5);
        return length(set, days);
    }

    long daysFor(int set, int much) {
        needWords(set);
        need(in(much, 0, 9999), 5);
        for (int d = 0; d <= 99; d++) {
            if (length(set, d) >= much) {
                return d;
            }
        }
        throw new Not(8);
    }

    // ---- rounds, plaits, tellers

    boolean quietRound(List<Integer> people) {
        Set<Integer> heard = new HashSet<>();
        people.forEach(p -> heard.addAll(st.people.get(p).strands.keySet()));
        return st.halves.stream().noneMatch(h -> heard.contains(h[0]) && heard.contains(h[1]));
    }

    int fewest(List<Integer> left, List<List<Integer>> groups) {
        if (left.isEmpty()) {
            return groups.stream().allMatch(this::quietRound) ? groups.size() : 99;
        }
        List<Integer> rest = left.subList(1, left.size());
        int best = 99;
        for (List<Integer> g : new ArrayList<>(groups)) {
            g.add(left.get(0));
            best = Math.min(best, fewest(rest, groups));
            g.remove(g.size() - 1);
        }
        List<Integer> own = new ArrayList<>(List.of(left.get(0)));
        groups.add(own);
        best = Math.min(best, fewest(rest, groups));
        groups.remove(groups.size() - 1);
        return best;
    }

    List<Integer> members(int set) {
        List<Integer> list = new ArrayList<>();
        for (int i = 0; i < 31; i++) {
            if ((set >> i & 1) == 1) {
                list.add(i);
            }
        }
        return list;
    }

    long round(int set) {
        need(in(set, 0, (1 << st.people.size()) - 1), 5);
        int n = fewest(members(set), new ArrayList<>());
        need(n < 99, 8);
        return n;
    }

    long oneRound() {
        int best = 0;
        for (int set = 1; set < 1 << st.people.size(); set++) {
            if (quietRound(members(set)) && Integer.bitCount(set) > Integer.bitCount(best)) {
                best = set;
            }
        }
        return best;
    }

    void orders(List<Integer> order, List<Integer> words, long[] row, int n, List<List<Integer>> found) {
        if (order.size() == words.size()) {
            for (int i = 0; i < n; i++) {
                int a = order.indexOf((int) row[2 * i]);
                int b = order.indexOf((int) row[2 * i + 1]);
                if (a >= 0 && b >= 0 && a >= b) {
                    return;
                }
            }
            found.add(new ArrayList<>(order));
            return;
        }
        for (int w : words) {
            if (!order.contains(w)) {
                order.add(w);
                orders(order, words, row, n, found);
                order.remove(order.size() - 1);
            }
        }
    }

    List<List<Integer>> orders(int set, int t, int n) {
        needTwos(t, n);
        needWords(set);
        for (int i = 0; i < 2 * n; i++) {
            need(in(rows[t][i], 0, st.words.size() - 1), 5);
        }
        List<List<Integer>> found = new ArrayList<>();
        orders(new ArrayList<>(), members(set), rows[t], n, found);
        return found;
    }

    long plaits(int set, int t, int n) {
        return orders(set, t, n).size();
    }

    long plaitAt(int set, int t, int n, int k) {
        List<List<Integer>> all = orders(set, t, n);
        need(!all.isEmpty() && in(k, 0, all.get(0).size() - 1), 8);
        return all.get(0).get(k);
    }

    long tellers(int w, int p) {
        needWord(w);
        needPerson(p);
        int set = 0;
        for (int[] d : st.dinners) {
            if (d[0] == p || d[1] == p) {
                int o = d[0] + d[1] - p;
                set |= st.people.get(o).knows.contains(w) ? 1 << o : 0;
            }
        }
        return set;
    }

    long rumour(int w, int p) {
        needWord(w);
        needPerson(p);
        int best = 99;
        for (int q = 0; q < st.people.size(); q++) {
            if (st.people.get(q).knows.contains(w)) {
                best = Math.min(best, distance(q, p, 0));
            }
        }
        need(best < 99, 8);
        return best;
    }

    int distance(int from, int to, int used) {
        if (from == to) {
            return 0;
        }
        int best = 99;
        for (int[] d : st.dinners) {
            if (d[0] == from || d[1] == from) {
                int o = d[0] + d[1] - from;
                if ((used >> o & 1) == 0) {
                    best = Math.min(best, 1 + distance(o, to, used | 1 << from));
                }
            }
        }
        return best;
    }

    // ---- two, odds

    int play(State s, int a, int b, int mover, int turns) {
        if (turns == 0) {
            return s.people.get(b).hair() - s.people.get(a).hair();
        }
        Integer best = null;
        for (int w = 0; w <= s.words.size(); w++) {
            State next = after(s, mover == 0 ? a : b, mover == 0 ? b : a, w);
            if (next != null) {
                int v = play(next, a, b, 1 - mover, turns - 1);
                best = best == null ? v : mover == 0 ? Math.max(best, v) : Math.min(best, v);
            }
        }
        return best;
    }

    /** What is behind a turn; null if it can't be. */
    State after(State s, int from, int to, int w) {
        State next = s.copy();
        if (w < s.words.size()) {
            if (!next.say(from, w, to)) {
                return null;
            }
            next.keep(to, w);
        }
        next.grow(next.people.get(from));
        next.grow(next.people.get(to));
        return next;
    }

    long game(int p, int o, int turns) {
        needPerson(p);
        needPerson(o);
        need(p != o && in(turns, 0, 3), 5);
        return play(st, p, o, 0, turns);
    }

    long moveOf(int p, int o, int turns) {
        needPerson(p);
        needPerson(o);
        need(p != o && in(turns, 1, 3), 5);
        int value = play(st, p, o, 0, turns);
        for (int w = 0; w < st.words.size(); w++) {
            State next = after(st, p, o, w);
            if (next != null && play(next, p, o, 1, turns - 1) == value) {
                return w;
            }
        }
        throw new Not(8);
    }

    long safe(int w, int n) {
        needWord(w);
        need(in(n, 0, 2), 5);
        long a = 1;
        long b = 1;
        for (int i = 0; i < n * Integer.bitCount(keepers(w)); i++) {
            a *= 16 - st.odds;
            b *= 16;
        }
        fraction(a, b);
        return 1;
    }

    long riskiest() {
        need(!st.words.isEmpty(), 8);
        int best = 0;
        for (int w = 1; w < st.words.size(); w++) {
            if (Math.pow((16.0 - st.odds) / 16, Integer.bitCount(keepers(w)))
                    < Math.pow((16.0 - st.odds) / 16, Integer.bitCount(keepers(best)))) {
                best = w;
            }
        }
        return best;
    }

    // ---- YEARS

    /** One life: steps, then what lived() tells. */
    static final class Life {
        final State s;
        final int[] facts = new int[5];
        int steps;
        long seed;

        Life(State s, int seed) {
            this.s = s;
            this.seed = seed;
            try {
                go(s.years);
            } catch (Stop stop) {
                facts[4] = stop.left ? 1 : 0;
            }
        }

        int draw(int n) {
            seed = (seed * 2971 + 10789) % 65536;
            return (int) (seed / 8 % n);
        }

        void go(List<Node> list) {
            for (Node n : list) {
                if (steps == 300) {
                    throw new Stop(true);
                }
                steps++;
                one(n);
            }
        }

        void one(Node n) {
            int[] a = n.args();
            switch (n.what()) {
                case "day" -> {
                    if (s.day + a[0] > 9999) {
                        facts[0]++;
                    } else {
                        facts[2] += s.pass(a[0]);
                        facts[1] += a[0];
                    }
                }
                case "keep" -> facts[0] += s.keep(a[0], a[1]) ? 0 : 1;
                case "say" -> facts[s.say(a[0], a[1], a[2]) ? 2 : 0]++;
                case "cut" -> facts[s.cut(a[0], a[1]) >= 0 ? 3 : 0]++;
                case "any" -> {
                    if (s.people.isEmpty() || s.words.isEmpty()) {
                        facts[0]++;
                    } else {
                        int p = draw(s.people.size());
                        int w = draw(s.words.size());
                        int o = draw(s.people.size());
                        facts[s.say(p, w, o) ? 2 : 0]++;
                    }
                }
                case "knows" -> {
                    if (s.people.get(a[0]).knows.contains(a[1])) {
                        go(n.body());
                    }
                }
                case "hair" -> {
                    int c = Integer.compare(s.people.get(a[0]).hair(), a[1]);
                    if (n.sign().equals("<") && c < 0 || n.sign().equals(">") && c > 0 || n.sign().equals("=") && c == 0) {
                        go(n.body());
                    }
                }
                case "loop" -> {
                    for (int i = 0; i < a[0]; i++) {
                        go(n.body());
                    }
                }
                default -> throw new Stop(false);
            }
        }
    }

    long live(int seed) {
        need(in(seed, 0, 9999), 5);
        need(st.years != null, 8);
        Life life = new Life(st, seed);
        lived = life.facts;
        return life.steps;
    }

    long lived(int what) {
        need(in(what, 0, 4), 5);
        need(lived != null, 8);
        return lived[what];
    }

    long mean(int seed, int many) {
        need(in(many, 1, 20) && in(seed, 0, 9999) && in(seed + many - 1, 0, 9999), 5);
        need(st.years != null, 8);
        long sum = 0;
        for (int i = 0; i < many; i++) {
            sum += new Life(st.copy(), seed + i).s.hair();
        }
        fraction(sum, many);
        return 1;
    }

    // ---- MARKS

    long mark() {
        need(marks.size() < 3, 7);
        marks.push(st.copy());
        return marks.size();
    }

    long back() {
        need(!marks.isEmpty(), 8);
        st = marks.pop();
        return marks.size();
    }
}
