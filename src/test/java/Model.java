import java.util.ArrayList;
import java.util.Arrays;
import java.util.HashMap;
import java.util.HashSet;
import java.util.List;
import java.util.Map;
import java.util.NoSuchElementException;
import java.util.Set;
import java.util.TreeMap;
import java.util.TreeSet;

/**
 * The document told a second time, in the most plodding way: laws as trees, states as lists, ways
 * searched state by state. ModelTest holds RopeWeds against it.
 */
public final class Model {
    static final int NONE = -1;
    static final int[] DX = {0, 0, 1, 0, -1};
    static final int[] DY = {0, -1, 0, 1, 0};

    interface Node {
        long worth(Map<String, Long> names);
    }

    static final class Fault extends Exception {
        final int kind;
        final int place;

        Fault(int kind, int place) {
            this.kind = kind;
            this.place = place;
        }
    }


    /** Everything that an image keeps, but for the deeds that can be undone. */
    static final class State implements Cloneable {
        int hour;
        int hard;
        int rainUntil;
        int[] knots = new int[0];
        int[] at = new int[0];
        boolean[] parted = new boolean[0];

        State twin() {
            State s = new State();
            s.hour = hour;
            s.hard = hard;
            s.rainUntil = rainUntil;
            s.knots = knots.clone();
            s.at = at.clone();
            s.parted = parted.clone();
            return s;
        }
    }

    static final class Island {
        int lines;
        int wide;
        int high;
        Set<Integer> rocks = new TreeSet<>();
        List<Integer> houses = new ArrayList<>();
        List<Integer> ropes = new ArrayList<>();
        Node lengthLaw;
        Node mayLaw;
    }

    static final class Image {
        Island island;
        State state;
        List<State> past;
    }

    StringBuilder tape = new StringBuilder();
    int faultKind = 0;
    int faultPlace = NONE;
    Island island = new Island();
    State state = new State();
    List<State> past = new ArrayList<>();
    Image[] images = new Image[3];
    long[][] trays = new long[4][];
    int[] sorts = new int[4];

    // ---- the island

    public int feed(int a, int b, int c, int d, int e) {
        if (tape.length() > 880) {
            return NONE;
        }
        for (int v : new int[] {a, b, c, d, e}) {
            for (byte x : java.nio.ByteBuffer.allocate(4).putInt(v).array()) {
                tape.append((char) (x & 255));
            }
        }
        return tape.length();
    }

    public int island(int n) {
        if (n < 0 || n > tape.length()) {
            throw new IllegalArgumentException();
        }
        String text = tape.substring(0, n);
        tape.setLength(0);
        try {
            TextReader reader = new TextReader(text);
            reader.readAll();
            island = reader.island;
            state = reader.state;
            past.clear();
            faultKind = 0;
            faultPlace = NONE;
            return island.lines;
        } catch (Fault f) {
            faultKind = f.kind;
            faultPlace = f.place;
            return -10 - f.kind;
        }
    }

    static final class Token {
        String sort;
        String text;
        int place;

        Token(String sort, String text, int place) {
            this.sort = sort;
            this.text = text;
            this.place = place;
        }
    }

    static final class TextReader {
        final List<Token> tokens = new ArrayList<>();
        int next = 0;
        final Island island = new Island();
        final State state = new State();
        int[] rain = null;
        List<Integer> at = new ArrayList<>();
        List<Integer> knots = new ArrayList<>();

        TextReader(String text) {
            java.util.regex.Matcher m = java.util.regex.Pattern
                    .compile("[ \\n]+|(?<word>[a-z]+)|(?<n>[0-9]+)|(?<sign>[;:+\\-*()\\[\\]=<>])|(?<bad>(?s:.))")
                    .matcher(text);
            while (m.find()) {
                if (m.group("word") != null) {
                    tokens.add(new Token("word", m.group(), m.start()));
                } else if (m.group("n") != null) {
                    tokens.add(new Token(m.group().length() <= 3 ? "n" : "bad", m.group(), m.start()));
                } else if (m.group("sign") != null) {
                    tokens.add(new Token("word", m.group(), m.start()));
                } else if (m.group("bad") != null) {
                    tokens.add(new Token("bad", m.group(), m.start()));
                }
            }
            tokens.add(new Token("end", "", text.length()));
        }

        Token peek() {
            return tokens.get(next);
        }

        Fault wrong(int kind) {
            return new Fault(peek().sort.equals("bad") ? 1 : kind, peek().place);
        }

        boolean is(String word) {
            return peek().sort.equals("word") && peek().text.equals(word);
        }

        void expect(String word) throws Fault {
            if (!is(word)) {
                throw wrong(2);
            }
            next++;
        }

        int number(int least, int most) throws Fault {
            if (!peek().sort.equals("n")) {
                throw wrong(2);
            }
            int v = Integer.parseInt(peek().text);
            if (v < least || v > most) {
                throw wrong(3);
            }
            next++;
            return v;
        }

        int spot(java.util.Collection<Integer> taboo) throws Fault {
            int x = number(0, island.wide - 1);
            int y = number(0, island.high - 1);
            int k = y * island.wide + x;
            if (taboo.contains(k)) {
                next--;
                throw wrong(3);
            }
            return k;
        }

        void readAll() throws Fault {
            expect("island");
            island.wide = number(2, 5);
            island.high = number(2, 5);
            expect(";");
            island.lines = 1;
            while (!peek().sort.equals("end")) {
                line();
                expect(";");
                island.lines++;
            }
            int pairs = island.ropes.size();
            state.knots = knots.stream().mapToInt(i -> i).toArray();
            state.at = at.stream().mapToInt(i -> i).toArray();
            state.parted = new boolean[pairs];
            if (rain != null) {
                state.hard = rain[0];
                state.rainUntil = state.hour + rain[1];
            }
        }

        void line() throws Fault {
            if (is("rock")) {
                next++;
                Set<Integer> taboo = new HashSet<>(at);
                taboo.addAll(island.houses);
                island.rocks.add(spot(taboo));
            } else if (is("house")) {
                if (island.houses.size() == 8) {
                    throw wrong(4);
                }
                next++;
                Set<Integer> taboo = new HashSet<>(island.rocks);
                taboo.addAll(island.houses);
                island.houses.add(spot(taboo));
            } else if (is("pair")) {
                if (island.ropes.size() == 4) {
                    throw wrong(4);
                }
                next++;
                island.ropes.add(number(1, 20));
                expect("at");
                at.add(spot(island.rocks));
                expect("and");
                at.add(spot(island.rocks));
                if (is("knots")) {
                    next++;
                    knots.add(number(0, 9));
                } else {
                    knots.add(0);
                }
            } else if (is("length")) {
                next++;
                expect(":");
                island.lengthLaw = sum(0, List.of("rope", "knots", "rain", "hour", "pair"));
            } else if (is("may")) {
                next++;
                expect(":");
                island.mayLaw = truth(0);
            } else if (is("rain")) {
                next++;
                int hard = number(0, 9);
                expect("for");
                rain = new int[] {hard, number(1, 99)};
            } else if (is("hour")) {
                next++;
                state.hour = number(0, 999);
            } else {
                throw wrong(2);
            }
        }

        static final List<String> MAY = List.of("x", "y", "who", "pair", "rain", "hour");

        Node truth(int within) throws Fault {
            Node a = both(within);
            while (is("or")) {
                next++;
                Node l = a;
                Node r = both(within);
                a = v -> l.worth(v) + r.worth(v) > 0 ? 1 : 0;
            }
            return a;
        }

        Node both(int within) throws Fault {
            Node a = unit(within);
            while (is("and")) {
                next++;
                Node l = a;
                Node r = unit(within);
                a = v -> l.worth(v) * r.worth(v);
            }
            return a;
        }

        void open(int within) throws Fault {
            if (within == 6) {
                throw wrong(4);
            }
            next++;
        }

        Node unit(int within) throws Fault {
            if (is("not")) {
                open(within);
                Node u = unit(within + 1);
                return v -> u.worth(v) == 0 ? 1 : 0;
            }
            if (is("[")) {
                open(within);
                Node t = truth(within + 1);
                expect("]");
                return t;
            }
            Node l = sum(within, MAY);
            String sign = peek().text;
            if (!is("=") && !is("<") && !is(">")) {
                throw wrong(2);
            }
            next++;
            Node r = sum(within, MAY);
            return v -> {
                int c = Long.compare(l.worth(v), r.worth(v));
                return sign.equals("=") && c == 0 || sign.equals("<") && c < 0 || sign.equals(">") && c > 0 ? 1 : 0;
            };
        }

        static long keep(long v) {
            return Math.max(-1_000_000, Math.min(1_000_000, v));
        }

        Node sum(int within, List<String> names) throws Fault {
            Node a = term(within, names);
            while (is("+") || is("-")) {
                long sign = is("+") ? 1 : -1;
                next++;
                Node l = a;
                Node r = term(within, names);
                a = v -> keep(l.worth(v) + sign * r.worth(v));
            }
            return a;
        }

        Node term(int within, List<String> names) throws Fault {
            Node a = atom(within, names);
            while (is("*")) {
                next++;
                Node l = a;
                Node r = atom(within, names);
                a = v -> keep(l.worth(v) * r.worth(v));
            }
            return a;
        }

        Node atom(int within, List<String> names) throws Fault {
            if (is("(")) {
                open(within);
                Node s = sum(within + 1, names);
                expect(")");
                return s;
            }
            Token t = peek();
            if (t.sort.equals("n")) {
                next++;
                long n = Long.parseLong(t.text);
                return v -> n;
            }
            if (t.sort.equals("word") && names.contains(t.text)) {
                next++;
                return v -> v.get(t.text);
            }
            throw wrong(2);
        }
    }

    // ---- helpers

    int pairs() {
        return island.ropes.size();
    }

    int places() {
        return island.wide * island.high;
    }

    void checkPair(int p) {
        if (p < 0 || p >= pairs()) {
            throw new NoSuchElementException();
        }
    }

    void checkPlace(int k) {
        if (k < 0 || k >= places()) {
            throw new NoSuchElementException();
        }
    }

    static void checkRange(int v, int least, int most) {
        if (v < least || v > most) {
            throw new IllegalArgumentException();
        }
    }

    long[] checkTray(int tray) {
        if (tray < 0 || tray > 3) {
            throw new NoSuchElementException();
        }
        if (trays[tray] == null) {
            throw new IllegalStateException();
        }
        return trays[tray];
    }

    int dist(int j, int k) {
        return Math.abs(j % island.wide - k % island.wide) + Math.abs(j / island.wide - k / island.wide);
    }

    int apart(int p) {
        return dist(state.at[2 * p], state.at[2 * p + 1]);
    }

    long rainAt(int hour) {
        return hour < state.rainUntil ? state.hard : 0;
    }

    int ropeAt(int p, int rope, int hour) {
        if (island.lengthLaw == null) {
            return Math.max(0, rope - state.knots[p]);
        }
        Map<String, Long> v = new HashMap<>();
        v.put("rope", (long) rope);
        v.put("knots", (long) state.knots[p]);
        v.put("rain", rainAt(hour));
        v.put("hour", (long) hour % 24);
        v.put("pair", (long) p);
        return (int) Math.max(0, Math.min(99, island.lengthLaw.worth(v)));
    }

    boolean lawful(int p, int who, int k, int hour) {
        if (island.mayLaw == null) {
            return true;
        }
        Map<String, Long> v = new HashMap<>();
        v.put("x", (long) k % island.wide);
        v.put("y", (long) k / island.wide);
        v.put("who", (long) who);
        v.put("pair", (long) p);
        v.put("rain", rainAt(hour));
        v.put("hour", (long) hour % 24);
        return island.mayLaw.worth(v) != 0;
    }

    /** Where a turn leads to, or NONE. */
    int dest(int p, int who, int from, int turn, int hour, Set<Integer> rocks) {
        if (turn == 0) {
            return from;
        }
        int x = from % island.wide + DX[turn];
        int y = from / island.wide + DY[turn];
        if (x < 0 || y < 0 || x >= island.wide || y >= island.high) {
            return NONE;
        }
        int k = y * island.wide + x;
        return rocks.contains(k) || !lawful(p, who, k, hour) ? NONE : k;
    }

    int bits(java.util.Collection<Integer> places) {
        int b = 0;
        for (int k : places) {
            b |= 1 << k;
        }
        return b;
    }

    // ---- asking

    public int fault(int what) {
        return what == 0 ? faultKind : what == 1 ? faultPlace : NONE;
    }

    public int place(int k) {
        checkPlace(k);
        if (island.rocks.contains(k)) {
            return -2;
        }
        int many = 0;
        for (int a : state.at) {
            many += a == k ? 1 : 0;
        }
        return 10 * many + (island.houses.contains(k) ? 1 : 0);
    }

    public int pair(int p, int what) {
        checkPair(p);
        checkRange(what, 0, 6);
        return new int[] {island.ropes.get(p), state.knots[p], state.at[2 * p], state.at[2 * p + 1], apart(p),
            ropeAt(p, island.ropes.get(p), state.hour), state.parted[p] ? 1 : 0}[what];
    }

    public int house(int h) {
        if (h < 0 || h >= island.houses.size()) {
            throw new NoSuchElementException();
        }
        return island.houses.get(h);
    }

    public int length(int p, int n) {
        checkPair(p);
        checkRange(n, 0, 999);
        return ropeAt(p, island.ropes.get(p), state.hour + n);
    }

    public boolean may(int p, int who, int k, int n) {
        checkPair(p);
        checkPlace(k);
        checkRange(who, 0, 1);
        checkRange(n, 0, 999);
        if (island.rocks.contains(k)) {
            throw new IllegalStateException();
        }
        return lawful(p, who, k, state.hour + n);
    }

    // ---- deeds

    void save() {
        past.add(state.twin());
        if (past.size() > 10) {
            past.remove(0);
        }
    }

    void tick() {
        state.hour++;
        for (int p = 0; p < pairs(); p++) {
            if (apart(p) > ropeAt(p, island.ropes.get(p), state.hour)) {
                state.parted[p] = true;
            }
        }
    }

    int partedBits() {
        int b = 0;
        for (int p = 0; p < pairs(); p++) {
            b |= state.parted[p] ? 1 << p : 0;
        }
        return b;
    }

    public int step(int p, int first, int second) {
        if (p < 0 || p >= pairs() || first < 0 || first > 4 || second < 0 || second > 4) {
            return -1;
        }
        int j = dest(p, 0, state.at[2 * p], first, state.hour + 1, island.rocks);
        int k = dest(p, 1, state.at[2 * p + 1], second, state.hour + 1, island.rocks);
        if (j == NONE || k == NONE) {
            return -2;
        }
        if (!state.parted[p] && dist(j, k) > ropeAt(p, island.ropes.get(p), state.hour + 1)) {
            return -3;
        }
        save();
        state.at[2 * p] = j;
        state.at[2 * p + 1] = k;
        tick();
        return dist(j, k);
    }

    public int tie(int p, int n) {
        checkPair(p);
        checkRange(n, 0, 9);
        save();
        state.knots[p] = n;
        return ropeAt(p, island.ropes.get(p), state.hour);
    }

    public int rain(int hard, int hours) {
        checkRange(hard, 0, 9);
        checkRange(hours, 1, 99);
        save();
        state.hard = hard;
        state.rainUntil = state.hour + hours;
        int b = 0;
        for (int p = 0; p < pairs(); p++) {
            if (!state.parted[p] && ropeAt(p, island.ropes.get(p), state.hour) < apart(p)) {
                b |= 1 << p;
            }
        }
        return b;
    }

    public int hours(int n) {
        checkRange(n, 1, 99);
        save();
        int before = partedBits();
        for (int i = 0; i < n; i++) {
            tick();
        }
        return partedBits() - before;
    }

    public int undo(int n) {
        checkRange(n, 1, 10);
        if (n > past.size()) {
            throw new IllegalArgumentException();
        }
        for (int i = 0; i < n; i++) {
            state = past.remove(past.size() - 1).twin();
        }
        return past.size();
    }

    /** Does a told deed; why not, or 0. */
    int told(long v) {
        if (v == NONE) {
            hours(1);
        } else if (v >= 0 && v <= 399) {
            int n = step((int) v / 100, (int) v / 10 % 10, (int) v % 10);
            return n < 0 ? -n : 0;
        } else if (v >= 1000 && v <= 1039 && (v - 1000) / 10 < pairs()) {
            tie((int) (v - 1000) / 10, (int) v % 10);
        } else if (v >= 2000 && v <= 2009) {
            rain((int) v - 2000, 6);
        } else {
            return 1;
        }
        return 0;
    }

    public int judge(int tray, int what) {
        long[] row = checkTray(tray);
        checkRange(what, 0, 3);
        State before = state.twin();
        List<State> pastBefore = new ArrayList<>(past);
        int[] answer = {NONE, 0, 0, 0};
        for (int i = 0; i < row.length && answer[1] == 0; i++) {
            answer[1] = told(row[i]);
            answer[0] = answer[1] == 0 ? NONE : i;
        }
        answer[2] = state.hour;
        answer[3] = partedBits();
        state = before;
        past = pastBefore;
        return answer[what];
    }

    public int perform(int tray) {
        long[] row = checkTray(tray);
        int done = 0;
        for (long v : row) {
            if (told(v) != 0) {
                break;
            }
            done++;
        }
        return done;
    }

    int x;

    int draw() {
        x = 1103515245 * x + 12345;
        return x >>> 16;
    }

    public int season(int seed, int times) {
        checkRange(times, 1, 30);
        x = seed;
        int done = 0;
        for (int i = 0; i < times; i++) {
            int sort = draw() % 5;
            long v;
            if (sort == 0) {
                v = NONE;
            } else if (pairs() == 0) {
                continue;
            } else if (sort <= 2) {
                v = 100 * (draw() % pairs());
                v += 10 * (draw() % 5);
                v += draw() % 5;
            } else if (sort == 3) {
                v = 1000 + 10 * (draw() % pairs());
                v += draw() % 10;
            } else {
                v = 2000 + draw() % 10;
            }
            done += told(v) == 0 ? 1 : 0;
        }
        return done;
    }

    // ---- to come

    public int partsIn(int p) {
        checkPair(p);
        if (state.parted[p]) {
            return 0;
        }
        for (int n = 1; n <= 999; n++) {
            if (ropeAt(p, island.ropes.get(p), state.hour + n) < apart(p)) {
                return n;
            }
        }
        return NONE;
    }

    /** One pair walking on: the question's own rope, knot of rocks and bond. */
    final class Walk {
        final int p;
        final Set<Integer> rocks;
        final int rope;
        final boolean tied;

        Walk(int p, Set<Integer> rocks, int rope, boolean tied) {
            this.p = p;
            this.rocks = rocks;
            this.rope = rope;
            this.tied = tied;
        }

        int start() {
            return 25 * state.at[2 * p] + state.at[2 * p + 1];
        }

        /** By turns, 10 times the first's and the second's, where a state leads to by the n-th hour. */
        TreeMap<Integer, Integer> from(int s, int n) {
            TreeMap<Integer, Integer> next = new TreeMap<>();
            int hour = state.hour + n;
            int most = tied ? ropeAt(p, rope, hour) : 99;
            int[] ks = new int[5];
            for (int u = 0; u < 5; u++) {
                ks[u] = dest(p, 1, s % 25, u, hour, rocks);
            }
            for (int t = 0; t < 5; t++) {
                int j = dest(p, 0, s / 25, t, hour, rocks);
                for (int u = 0; u < 5; u++) {
                    if (j != NONE && ks[u] != NONE && dist(j, ks[u]) <= most) {
                        next.put(10 * t + u, 25 * j + ks[u]);
                    }
                }
            }
            return next;
        }

        /** The states of each hour, 0 to n at most; the last list may be empty. */
        List<Set<Integer>> layers(int n) {
            List<Set<Integer>> all = new ArrayList<>();
            Set<Integer> now = new TreeSet<>(Set.of(start()));
            all.add(now);
            for (int h = 1; h <= n && !now.isEmpty(); h++) {
                Set<Integer> then = new TreeSet<>();
                for (int s : now) {
                    then.addAll(from(s, h).values());
                }
                all.add(then);
                now = then;
            }
            return all;
        }

        int soonest(java.util.function.IntPredicate there) {
            List<Set<Integer>> all = layers(40);
            for (int h = 0; h < all.size(); h++) {
                for (int s : all.get(h)) {
                    if (there.test(s)) {
                        return h;
                    }
                }
            }
            return NONE;
        }

        int soonest(int j, int k) {
            return soonest(s -> s == 25 * j + k);
        }

        /** The first way by turns, or null. */
        List<Integer> way(int j, int k) {
            int hours = soonest(j, k);
            if (hours == NONE) {
                return null;
            }
            List<Integer> turns = new ArrayList<>();
            return search(start(), 1, hours, 25 * j + k, turns, new HashSet<>()) ? turns : null;
        }

        private boolean search(int s, int h, int hours, int end, List<Integer> turns, Set<Integer> dead) {
            if (h > hours) {
                return s == end;
            }
            if (dead.contains(1000 * h + s)) {
                return false;
            }
            for (Map.Entry<Integer, Integer> e : from(s, h).entrySet()) {
                turns.add(e.getKey());
                if (search(e.getValue(), h + 1, hours, end, turns, dead)) {
                    return true;
                }
                turns.remove(turns.size() - 1);
            }
            dead.add(1000 * h + s);
            return false;
        }
    }

    Walk walk(int p) {
        return new Walk(p, island.rocks, island.ropes.get(p), !state.parted[p]);
    }

    Set<Integer> layer(int p, int n) {
        List<Set<Integer>> all = walk(p).layers(n);
        return all.size() > n ? all.get(n) : new TreeSet<>();
    }

    public int lasts(int p) {
        checkPair(p);
        int n = 0;
        for (Set<Integer> s : walk(p).layers(40)) {
            n += s.isEmpty() ? 0 : 1;
        }
        return n - 1;
    }

    public int reach(int p, int who, int n) {
        checkPair(p);
        checkRange(who, 0, 1);
        checkRange(n, 0, 40);
        Set<Integer> places = new TreeSet<>();
        for (int s : layer(p, n)) {
            places.add(who == 0 ? s / 25 : s % 25);
        }
        return bits(places);
    }

    public int together(int p, int n) {
        checkPair(p);
        checkRange(n, 0, 40);
        Set<Integer> places = new TreeSet<>();
        for (int s : layer(p, n)) {
            if (s / 25 == s % 25) {
                places.add(s % 25);
            }
        }
        return bits(places);
    }

    public int meal(int p, int what) {
        checkPair(p);
        checkRange(what, 0, 1);
        List<Set<Integer>> all = walk(p).layers(40);
        for (int h = 0; h < all.size(); h++) {
            for (int s : all.get(h)) {
                if (s / 25 == s % 25) {
                    return what == 0 ? h : s / 25;
                }
            }
        }
        return NONE;
    }

    public int farthest(int p, int n) {
        checkPair(p);
        checkRange(n, 0, 40);
        int far = NONE;
        for (int s : layer(p, n)) {
            far = Math.max(far, dist(s / 25, s % 25));
        }
        return far;
    }

    // ---- ways of both

    void checkWalk(int p, int j, int k) {
        checkPair(p);
        checkPlace(j);
        checkPlace(k);
    }

    public int soonest(int p, int j, int k) {
        checkWalk(p, j, k);
        return walk(p).soonest(j, k);
    }

    public int leads(int p, int j, int k, int i) {
        checkWalk(p, j, k);
        if (i < 1) {
            throw new IllegalArgumentException();
        }
        List<Integer> way = walk(p).way(j, k);
        return way == null || i > way.size() ? NONE : way.get(i - 1);
    }

    Map<Integer, Long> counted(int p, long[] seen, int n) {
        Walk walk = walk(p);
        Map<Integer, Long> now = new TreeMap<>(Map.of(walk.start(), 1L));
        for (int h = 1; h <= n; h++) {
            Map<Integer, Long> then = new TreeMap<>();
            for (Map.Entry<Integer, Long> e : now.entrySet()) {
                for (int s : walk.from(e.getKey(), h).values()) {
                    if (seen == null || seen[h - 1] == NONE || seen[h - 1] == s / 25) {
                        then.merge(s, e.getValue(), Long::sum);
                    }
                }
            }
            now = then;
        }
        return now;
    }

    public long ways(int p, int j, int k, int n) {
        checkWalk(p, j, k);
        checkRange(n, 0, 8);
        return counted(p, null, n).getOrDefault(25 * j + k, 0L);
    }

    int aloneBy(Walk walk, int who, int k) {
        return walk.soonest(s -> (who == 0 ? s / 25 : s % 25) == k);
    }

    public int alone(int p, int who, int k) {
        checkPair(p);
        checkPlace(k);
        checkRange(who, 0, 1);
        return aloneBy(walk(p), who, k);
    }

    public int costs(int p, int who, int k) {
        checkPair(p);
        checkPlace(k);
        checkRange(who, 0, 1);
        int tied = aloneBy(walk(p), who, k);
        int free = aloneBy(new Walk(p, island.rocks, island.ropes.get(p), false), who, k);
        return tied == NONE || free == NONE ? NONE : tied - free;
    }

    public int leastRope(int p, int j, int k) {
        checkWalk(p, j, k);
        for (int rope = 1; rope <= 20; rope++) {
            if (new Walk(p, island.rocks, rope, !state.parted[p]).soonest(j, k) != NONE) {
                return rope;
            }
        }
        return NONE;
    }

    int soonestWith(int p, int j, int k, Set<Integer> rocks) {
        return new Walk(p, rocks, island.ropes.get(p), !state.parted[p]).soonest(j, k);
    }

    public int needed(int p, int j, int k) {
        checkWalk(p, j, k);
        Set<Integer> all = new TreeSet<>();
        List<Integer> four = List.of(j, k, state.at[2 * p], state.at[2 * p + 1]);
        if (soonestWith(p, j, k, island.rocks) == NONE) {
            return 0;
        }
        for (int i = 0; i < places(); i++) {
            if (!island.rocks.contains(i) && !four.contains(i)) {
                Set<Integer> rocks = new TreeSet<>(island.rocks);
                rocks.add(i);
                if (soonestWith(p, j, k, rocks) == NONE) {
                    all.add(i);
                }
            }
        }
        return bits(all);
    }

    public int clear(int p, int j, int k) {
        checkWalk(p, j, k);
        int now = soonestWith(p, j, k, island.rocks);
        int least = now == NONE ? 99 : now;
        int best = NONE;
        for (int r : island.rocks) {
            Set<Integer> rocks = new TreeSet<>(island.rocks);
            rocks.remove(r);
            int then = soonestWith(p, j, k, rocks);
            if (then != NONE && then < least) {
                least = then;
                best = r;
            }
        }
        return best;
    }

    // ---- errands

    List<Integer> checkErrands(int p, int tray) {
        checkPair(p);
        long[] row = checkTray(tray);
        checkRange(row.length, 1, 4);
        List<Integer> all = new ArrayList<>();
        for (long v : row) {
            boolean one = v >= 0 && v < places() || v >= 100 && v < 100 + places();
            if (!one) {
                throw new IllegalArgumentException();
            }
            all.add((int) v);
        }
        return all;
    }

    int allDone(int p, List<Integer> errands) {
        Walk walk = walk(p);
        int all = (1 << errands.size()) - 1;
        Set<Integer> now = new HashSet<>(Set.of(walk.start() * 16 + doneBy(errands, walk.start())));
        for (int h = 0; h <= 40; h++) {
            Set<Integer> then = new HashSet<>();
            for (int s : now) {
                if (s % 16 == all) {
                    return h;
                }
                for (int to : walk.from(s / 16, h + 1).values()) {
                    then.add(to * 16 + (s % 16 | doneBy(errands, to)));
                }
            }
            now = then;
        }
        return NONE;
    }

    int doneBy(List<Integer> errands, int s) {
        int b = 0;
        for (int i = 0; i < errands.size(); i++) {
            int e = errands.get(i);
            b |= (e >= 100 ? e - 100 == s % 25 : e == s / 25) ? 1 << i : 0;
        }
        return b;
    }

    public int errands(int p, int tray) {
        return allDone(p, checkErrands(p, tray));
    }

    public int dropped(int p, int tray) {
        List<Integer> all = checkErrands(p, tray);
        int least = 99;
        int best = NONE;
        for (int i = 0; i < all.size(); i++) {
            List<Integer> rest = new ArrayList<>(all);
            rest.remove(i);
            int h = allDone(p, rest);
            if (h != NONE && h < least) {
                least = h;
                best = i;
            }
        }
        return best;
    }

    // ---- houses

    /** All ways to be housed, the houses of each person, in their order. */
    List<int[]> housings(int banned) {
        List<int[]> all = new ArrayList<>();
        housings(new int[2 * pairs()], 0, banned, all);
        return all;
    }

    private void housings(int[] homes, int i, int banned, List<int[]> all) {
        if (i == homes.length) {
            all.add(homes.clone());
            return;
        }
        for (int h = 0; h < island.houses.size(); h++) {
            boolean free = h != banned;
            for (int j = 0; j < i; j++) {
                free &= homes[j] != h;
            }
            homes[i] = h;
            int p = i / 2;
            if (free && i % 2 == 1 && !state.parted[p]) {
                free = dist(island.houses.get(homes[i - 1]), island.houses.get(h))
                        <= ropeAt(p, island.ropes.get(p), state.hour);
            }
            if (free) {
                housings(homes, i + 1, banned, all);
            }
        }
    }

    public int housed() {
        return housings(NONE).size();
    }

    public int shortest(int what) {
        if (what != 0 && (what < 10 || what > 17)) {
            throw new IllegalArgumentException();
        }
        int least = Integer.MAX_VALUE;
        int[] best = null;
        for (int[] homes : housings(NONE)) {
            int far = 0;
            for (int i = 0; i < homes.length; i++) {
                far += dist(state.at[i], island.houses.get(homes[i]));
            }
            if (far < least) {
                least = far;
                best = homes;
            }
        }
        if (best == null) {
            return NONE;
        }
        return what == 0 ? least : what - 10 < best.length ? best[what - 10] : NONE;
    }

    public int dear() {
        int b = 0;
        if (!housings(NONE).isEmpty()) {
            for (int h = 0; h < island.houses.size(); h++) {
                b |= housings(h).isEmpty() ? 1 << h : 0;
            }
        }
        return b;
    }

    // ---- watched

    long[] checkSeen(int p, int tray, int most) {
        checkPair(p);
        long[] row = checkTray(tray);
        checkRange(row.length, 1, most);
        for (long v : row) {
            if (v < -1 || v >= places()) {
                throw new IllegalArgumentException();
            }
        }
        return row;
    }

    public int other(int p, int tray) {
        long[] row = checkSeen(p, tray, 20);
        Walk walk = walk(p);
        Set<Integer> now = Set.of(walk.start());
        for (int h = 1; h <= row.length; h++) {
            Set<Integer> then = new TreeSet<>();
            for (int s : now) {
                for (int to : walk.from(s, h).values()) {
                    if (row[h - 1] == NONE || row[h - 1] == to / 25) {
                        then.add(to);
                    }
                }
            }
            now = then;
        }
        Set<Integer> places = new TreeSet<>();
        for (int s : now) {
            places.add(s % 25);
        }
        return bits(places);
    }

    public long fits(int p, int tray) {
        long[] row = checkSeen(p, tray, 8);
        return counted(p, row, row.length).values().stream().mapToLong(v -> v).sum();
    }

    public int look(int p, int tray) {
        long[] row = checkSeen(p, tray, 8);
        long[] ends = new long[places()];
        counted(p, row, row.length).forEach((s, many) -> ends[s % 25] += many);
        long all = Arrays.stream(ends).sum();
        int best = NONE;
        for (int k = 0; k < ends.length && all > 0; k++) {
            if (best == NONE || Math.min(ends[k], all - ends[k]) > Math.min(ends[best], all - ends[best])) {
                best = k;
            }
        }
        return best;
    }

    // ---- trays, images

    public void tray(int tray, int sort, int many) {
        if (tray < 0 || tray > 3) {
            throw new NoSuchElementException();
        }
        checkRange(sort, 0, 3);
        checkRange(many, 0, 30);
        trays[tray] = new long[many];
        sorts[tray] = sort;
    }

    public long write(int tray, int place, long v) {
        long[] row = checkTray(tray);
        if (place < 0 || place >= row.length) {
            throw new IndexOutOfBoundsException();
        }
        int shift = 64 - (8 << sorts[tray]);
        row[place] = v << shift >> shift;
        return row[place];
    }

    public int copy(int tray, int p, int j, int k) {
        if (tray < 0 || tray > 3) {
            throw new NoSuchElementException();
        }
        checkWalk(p, j, k);
        checkTray(tray);
        List<Integer> way = walk(p).way(j, k);
        if (way == null) {
            return NONE;
        }
        int i = 0;
        for (; i < way.size() && i < trays[tray].length; i++) {
            write(tray, i, 100 * p + way.get(i));
        }
        return i;
    }

    public void image(int i) {
        if (i < 0 || i > 2) {
            throw new NoSuchElementException();
        }
        images[i] = new Image();
        images[i].island = island;
        images[i].state = state.twin();
        images[i].past = new ArrayList<>(past);
    }

    public void restore(int i) {
        if (i < 0 || i > 2) {
            throw new NoSuchElementException();
        }
        if (images[i] == null) {
            throw new IllegalStateException();
        }
        island = images[i].island;
        state = images[i].state.twin();
        past = new ArrayList<>(images[i].past);
    }

    public int count(int what) {
        switch (what) {
            case 0: return island.lines;
            case 1: return island.wide;
            case 2: return island.high;
            case 3: return pairs();
            case 4: return island.houses.size();
            case 5: return island.rocks.size();
            case 6: return state.hour;
            case 7: return (int) rainAt(state.hour);
            case 8: return Integer.bitCount(partedBits());
            case 9: return past.size();
            case 10: return tape.length();
            default: return NONE;
        }
    }
}
