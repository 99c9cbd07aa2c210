import java.util.Arrays;
import java.util.NoSuchElementException;

/**
 * Marriage by rope's length: an island told as a text, pairs tied by ropes that walk it at once,
 * and what can be asked of the hours to come.
 */
public final class RopeWeds {
    public static final int NONE = -1;

    private static final int TAPE = 900;
    private static final int PLACES = 25;
    private static final int PAIRS = 4;
    private static final int HOUSES = 8;
    private static final int TURNS = 5;
    private static final int HORIZON = 40;
    private static final int FARTHEST = 8;
    private static final int DEEDS = 10;
    private static final int IMAGES = 3;
    private static final int COUNTED = 8;

    private final byte[] tape = new byte[TAPE];
    private int onTape = 0;
    private int latestFault = 0;
    private int latestPlace = NONE;
    private final Reader reader = new Reader();
    // The world is made where it is looked ahead in most, so that no constructor hands out a part.
    private final Ahead ahead = new Ahead();
    private final World world = ahead.world;
    private final World[] images = new World[IMAGES];
    private final boolean[] imaged = new boolean[IMAGES];
    private final Trays trays = new Trays();
    private final Tally tally = new Tally();
    private final Chores chores = new Chores();
    private final Homes homes = new Homes();

    public RopeWeds() {
        for (int i = 0; i < IMAGES; i++) {
            images[i] = new World();
        }
    }

    // ---- the island

    public int feed(int a, int b, int c, int d, int e) {
        if (onTape + 20 > TAPE) {
            return NONE;
        }
        tapeOn(a);
        tapeOn(b);
        tapeOn(c);
        tapeOn(d);
        tapeOn(e);
        return onTape;
    }

    public int island(int n) throws IllegalArgumentException {
        if (n < 0 || n > onTape) {
            throw new IllegalArgumentException("not so many bytes on the tape");
        }
        onTape = 0;
        reader.read(tape, n);
        latestFault = reader.fault;
        latestPlace = reader.faultPlace;
        if (latestFault != 0) {
            return -10 - latestFault;
        }
        world.begin(reader.isle, reader.life);
        return world.isle.lines;
    }

    public int fault(int what) {
        switch (what) {
            case 0: return latestFault;
            case 1: return latestPlace;
            default: return NONE;
        }
    }

    public int place(int k) throws NoSuchElementException {
        needPlace(k);
        if (world.isle.isRock(k)) {
            return -2;
        }
        return 10 * world.peopleAt(k) + (world.isle.houseStandsAt(k) ? 1 : 0);
    }

    public int pair(int p, int what) throws NoSuchElementException, IllegalArgumentException {
        needPair(p);
        switch (what) {
            case 0: return world.isle.rope[p];
            case 1: return world.life.knots[p];
            case 2: return world.life.first[p];
            case 3: return world.life.second[p];
            case 4: return world.apart(p);
            case 5: return world.ropeIn(p, world.life.hour);
            case 6: return world.life.isParted(p) ? 1 : 0;
            default: throw new IllegalArgumentException("what is 0 to 6");
        }
    }

    public int house(int h) throws NoSuchElementException {
        if (h < 0 || h >= world.isle.houses || h >= HOUSES) {
            throw new NoSuchElementException("no such house");
        }
        return world.isle.houseAt[h];
    }

    public int length(int p, int n) throws NoSuchElementException, IllegalArgumentException {
        needPair(p);
        needWithin(n, 0, 999);
        return world.ropeIn(p, world.life.hour + n);
    }

    public boolean may(int p, int who, int k, int n)
            throws NoSuchElementException, IllegalArgumentException, IllegalStateException {
        needPair(p);
        needPlace(k);
        needWithin(who, 0, 1);
        needWithin(n, 0, 999);
        if (world.isle.isRock(k)) {
            throw new IllegalStateException("it is a rock");
        }
        return world.lawBits(p, who, world.life.hour + n, k, k + 1) != 0;
    }

    // ---- deeds

    public int step(int p, int first, int second) {
        int why = world.whyNoStep(p, first, second);
        if (why != 0) {
            return -why;
        }
        world.remember();
        world.walk(p, first, second);
        world.passHour();
        return world.apart(p);
    }

    public int tie(int p, int n) throws NoSuchElementException, IllegalArgumentException {
        needPair(p);
        needWithin(n, 0, 9);
        world.remember();
        world.life.knots[p] = n;
        return world.ropeIn(p, world.life.hour);
    }

    public int rain(int hard, int hours) throws IllegalArgumentException {
        needWithin(hard, 0, 9);
        needWithin(hours, 1, 99);
        world.remember();
        world.life.letRain(hard, hours);
        return world.tooFarApart();
    }

    public int hours(int n) throws IllegalArgumentException {
        needWithin(n, 1, 99);
        world.remember();
        int before = world.life.parted;
        for (int i = 0; i < n; i++) {
            world.passHour();
        }
        return world.life.parted & ~before;
    }

    public int undo(int n) throws IllegalArgumentException {
        if (n < 1 || n > DEEDS || n > world.kept) {
            throw new IllegalArgumentException("not so many deeds can be undone");
        }
        world.goBack(n);
        return world.kept;
    }

    public int judge(int tray, int what)
            throws NoSuchElementException, IllegalStateException, IllegalArgumentException {
        needRow(tray);
        needWithin(what, 0, 3);
        int many = trays.many[tray];
        int done = 0;
        int why = 0;
        world.setAside();
        for (int i = 0; i < many && why == 0; i++) {
            why = world.doTold(trays.at(tray, i), false);
            done += why == 0 ? 1 : 0;
        }
        int hour = world.life.hour;
        int parted = world.life.parted;
        world.takeUpAgain();
        switch (what) {
            case 0: return why == 0 ? NONE : done;
            case 1: return why;
            case 2: return hour;
            default: return parted;
        }
    }

    public int perform(int tray) throws NoSuchElementException, IllegalStateException {
        needRow(tray);
        int many = trays.many[tray];
        for (int i = 0; i < many; i++) {
            if (world.doTold(trays.at(tray, i), true) != 0) {
                return i;
            }
        }
        return many;
    }

    public int season(int seed, int times) throws IllegalArgumentException {
        needWithin(times, 1, 30);
        int done = 0;
        world.draw = seed;
        for (int i = 0; i < times; i++) {
            done += world.drawDeed() ? 1 : 0;
        }
        return done;
    }

    // ---- to come

    public int partsIn(int p) throws NoSuchElementException {
        needPair(p);
        if (world.life.isParted(p)) {
            return 0;
        }
        int apart = world.apart(p);
        for (int n = 1; n <= 999; n++) {
            if (apart > world.ropeIn(p, world.life.hour + n)) {
                return n;
            }
        }
        return NONE;
    }

    public int lasts(int p) throws NoSuchElementException {
        needPair(p);
        ahead.begin(p);
        return ahead.lastHour();
    }

    public int reach(int p, int who, int n) throws NoSuchElementException, IllegalArgumentException {
        needPair(p);
        needWithin(who, 0, 1);
        needWithin(n, 0, HORIZON);
        ahead.begin(p);
        return ahead.goTo(n) ? ahead.whereIs(who, n) : 0;
    }

    public int together(int p, int n) throws NoSuchElementException, IllegalArgumentException {
        needPair(p);
        needWithin(n, 0, HORIZON);
        ahead.begin(p);
        return ahead.goTo(n) ? ahead.whereBoth(n) : 0;
    }

    public int meal(int p, int what) throws NoSuchElementException, IllegalArgumentException {
        needPair(p);
        needWithin(what, 0, 1);
        ahead.begin(p);
        int n = ahead.mealHour();
        return n == NONE || what == 0 ? n : lowest(ahead.whereBoth(n));
    }

    public int farthest(int p, int n) throws NoSuchElementException, IllegalArgumentException {
        needPair(p);
        needWithin(n, 0, HORIZON);
        ahead.begin(p);
        return ahead.goTo(n) ? ahead.widest(n) : NONE;
    }

    // ---- ways of both

    public int soonest(int p, int j, int k) throws NoSuchElementException {
        needWalk(p, j, k);
        ahead.begin(p);
        return ahead.hoursTo(j, k, world.isle.rocks);
    }

    public int leads(int p, int j, int k, int i) throws NoSuchElementException, IllegalArgumentException {
        needWalk(p, j, k);
        if (i < 1) {
            throw new IllegalArgumentException("hours are told from 1 on");
        }
        ahead.begin(p);
        int hours = ahead.findWay(j, k);
        return i <= hours && i <= HORIZON ? ahead.turns[i] : NONE;
    }

    public long ways(int p, int j, int k, int n) throws NoSuchElementException, IllegalArgumentException {
        needWalk(p, j, k);
        needWithin(n, 0, COUNTED);
        ahead.begin(p);
        tally.start(ahead);
        for (int h = 1; h <= n; h++) {
            tally.goOn(ahead, h, NONE);
        }
        return tally.at(j, k);
    }

    public int alone(int p, int who, int k) throws NoSuchElementException, IllegalArgumentException {
        needPair(p);
        needPlace(k);
        needWithin(who, 0, 1);
        ahead.begin(p);
        return ahead.hoursOfOne(who, k);
    }

    public int costs(int p, int who, int k) throws NoSuchElementException, IllegalArgumentException {
        needPair(p);
        needPlace(k);
        needWithin(who, 0, 1);
        ahead.begin(p);
        int tied = ahead.hoursOfOne(who, k);
        if (tied == NONE) {
            return NONE;
        }
        ahead.bind(world.isle.rope[p], false);
        int free = ahead.hoursOfOne(who, k);
        return free == NONE ? NONE : tied - free;
    }

    public int leastRope(int p, int j, int k) throws NoSuchElementException {
        needWalk(p, j, k);
        ahead.begin(p);
        for (int rope = 1; rope <= 20; rope++) {
            ahead.bind(rope, !world.life.isParted(p));
            if (ahead.hoursTo(j, k, world.isle.rocks) != NONE) {
                return rope;
            }
        }
        return NONE;
    }

    public int needed(int p, int j, int k) throws NoSuchElementException {
        needWalk(p, j, k);
        ahead.begin(p);
        int hours = ahead.findWay(j, k);
        return ahead.neededPlaces(j, k, hours);
    }

    public int clear(int p, int j, int k) throws NoSuchElementException {
        needWalk(p, j, k);
        ahead.begin(p);
        return ahead.rockInTheWay(j, k);
    }

    // ---- errands

    public int errands(int p, int tray)
            throws NoSuchElementException, IllegalStateException, IllegalArgumentException {
        needErrands(p, tray);
        ahead.begin(p);
        return chores.hoursForAll(ahead);
    }

    public int dropped(int p, int tray)
            throws NoSuchElementException, IllegalStateException, IllegalArgumentException {
        needErrands(p, tray);
        ahead.begin(p);
        return chores.bestDropped(ahead);
    }

    // ---- houses

    public int housed() {
        return homes.waysWithout(world, 0);
    }

    public int shortest(int what) throws IllegalArgumentException {
        if (what != 0 && (what < 10 || what > 17)) {
            throw new IllegalArgumentException("what is 0 or 10 to 17");
        }
        int far = homes.settle(world);
        int person = what - 10;
        if (what == 0 || far == NONE) {
            return far;
        }
        return person < 2 * world.isle.pairs ? homes.homeOf[person] : NONE;
    }

    public int dear() {
        if (homes.waysWithout(world, 0) == 0) {
            return 0;
        }
        int bits = 0;
        for (int h = 0; h < world.isle.houses; h++) {
            if (homes.waysWithout(world, 1 << h) == 0) {
                bits |= 1 << h;
            }
        }
        return bits;
    }

    // ---- watched

    public int other(int p, int tray)
            throws NoSuchElementException, IllegalStateException, IllegalArgumentException {
        needSeen(p, tray, 20);
        int many = trays.many[tray];
        ahead.begin(p);
        ahead.start();
        for (int h = 1; h <= many; h++) {
            if (!ahead.watchTo(h, (int) trays.at(tray, h - 1))) {
                return 0;
            }
        }
        return ahead.whereIs(1, many);
    }

    public long fits(int p, int tray)
            throws NoSuchElementException, IllegalStateException, IllegalArgumentException {
        needSeen(p, tray, COUNTED);
        countSeen(p, tray);
        return tally.total();
    }

    public int look(int p, int tray)
            throws NoSuchElementException, IllegalStateException, IllegalArgumentException {
        needSeen(p, tray, COUNTED);
        countSeen(p, tray);
        return tally.tellsMost();
    }

    // ---- trays, images

    public void tray(int tray, int sort, int many) throws NoSuchElementException, IllegalArgumentException {
        needTray(tray);
        needWithin(sort, 0, 3);
        needWithin(many, 0, Trays.LONGEST);
        trays.lay(tray, sort, many);
    }

    public long write(int tray, int place, long v)
            throws NoSuchElementException, IllegalStateException, IndexOutOfBoundsException {
        needRow(tray);
        if (place < 0 || place >= trays.many[tray]) {
            throw new IndexOutOfBoundsException("the tray has no such place");
        }
        return trays.put(tray, place, v);
    }

    public int copy(int tray, int p, int j, int k) throws NoSuchElementException, IllegalStateException {
        needTray(tray);
        needWalk(p, j, k);
        needRow(tray);
        ahead.begin(p);
        int hours = ahead.findWay(j, k);
        int done = Math.min(hours, trays.many[tray]);
        for (int i = 0; i < done; i++) {
            trays.put(tray, i, 100 * p + ahead.turns[i + 1]);
        }
        return done;
    }

    public void image(int i) throws NoSuchElementException {
        needImage(i);
        images[i].copyFrom(world);
        imaged[i] = true;
    }

    public void restore(int i) throws NoSuchElementException, IllegalStateException {
        needImage(i);
        if (!imaged[i]) {
            throw new IllegalStateException("no image was made");
        }
        world.copyFrom(images[i]);
    }

    public int count(int what) {
        switch (what) {
            case 0: return world.isle.lines;
            case 1: return world.isle.wide;
            case 2: return world.isle.high;
            case 3: return world.isle.pairs;
            case 4: return world.isle.houses;
            case 5: return Integer.bitCount(world.isle.rocks);
            case 6: return world.life.hour;
            case 7: return world.life.rainIn(world.life.hour);
            case 8: return Integer.bitCount(world.life.parted);
            case 9: return world.kept;
            case 10: return onTape;
            default: return NONE;
        }
    }

    // ---- what the face looks at before it answers

    private void tapeOn(int four) {
        for (int shift = 24; shift >= 0 && onTape < TAPE; shift -= 8) {
            tape[onTape] = (byte) (four >>> shift);
            onTape++;
        }
    }

    private void needWithin(int n, int least, int most) {
        if (n < least || n > most) {
            throw new IllegalArgumentException("a number is out of its bounds");
        }
    }

    private void needPlace(int k) {
        if (k < 0 || k >= world.isle.places()) {
            throw new NoSuchElementException("no such place");
        }
    }

    private void needPair(int p) {
        if (p < 0 || p >= world.isle.pairs || p >= PAIRS) {
            throw new NoSuchElementException("no such pair");
        }
    }

    private void needWalk(int p, int j, int k) {
        needPair(p);
        needPlace(j);
        needPlace(k);
    }

    private void needTray(int tray) {
        if (tray < 0 || tray >= Trays.TRAYS) {
            throw new NoSuchElementException("no such tray");
        }
    }

    private void needRow(int tray) {
        needTray(tray);
        if (trays.many[tray] == NONE) {
            throw new IllegalStateException("the tray is missing");
        }
    }

    private void needImage(int i) {
        if (i < 0 || i >= IMAGES) {
            throw new NoSuchElementException("no such image");
        }
    }

    private void needErrands(int p, int tray) {
        needPair(p);
        needRow(tray);
        int many = trays.many[tray];
        needWithin(many, 1, Chores.MOST);
        int places = world.isle.places();
        for (int i = 0; i < many; i++) {
            long v = trays.at(tray, i);
            if (v < 0 || v >= 100 + places || v >= places && v < 100) {
                throw new IllegalArgumentException("no such errand");
            }
        }
        chores.many = many;
        for (int i = 0; i < many; i++) {
            chores.told[i] = (int) trays.at(tray, i);
        }
    }

    private void needSeen(int p, int tray, int most) {
        needPair(p);
        needRow(tray);
        int many = trays.many[tray];
        needWithin(many, 1, most);
        for (int i = 0; i < many; i++) {
            long v = trays.at(tray, i);
            if (v < NONE || v >= world.isle.places()) {
                throw new IllegalArgumentException("no place and not NONE");
            }
        }
    }

    private void countSeen(int p, int tray) {
        ahead.begin(p);
        tally.start(ahead);
        int many = trays.many[tray];
        for (int h = 1; h <= many; h++) {
            tally.goOn(ahead, h, (int) trays.at(tray, h - 1));
        }
    }

    private static int lowest(int bits) {
        for (int k = 0; k < PLACES; k++) {
            if ((bits >>> k & 1) != 0) {
                return k;
            }
        }
        return NONE;
    }

    /** The text cut into words, numbers and signs, with an end behind them. */
    private static final class Tokens {
        static final int END = 0;
        static final int NUMBER = 1;
        static final int BAD = 2;
        static final int STRANGE = 3;
        // Signs bear the number of their character; words follow, the laws' names first.
        static final int ROPE = 128;
        static final int KNOTS = 129;
        static final int RAIN = 130;
        static final int HOUR = 131;
        static final int PAIR = 132;
        static final int X = 133;
        static final int Y = 134;
        static final int WHO = 135;
        static final int ISLAND = 136;
        static final int ROCK = 137;
        static final int HOUSE = 138;
        static final int AT = 139;
        static final int AND = 140;
        static final int LENGTH = 141;
        static final int MAY = 142;
        static final int FOR = 143;
        static final int OR = 144;
        static final int NOT = 145;
        private static final String WORDS =
                "rope knots rain hour pair x y who island rock house at and length may for or not ";
        private static final String SIGNS = ";:+-*()[]=<>";

        final int[] kind = new int[TAPE + 1];
        final int[] value = new int[TAPE + 1];
        final int[] start = new int[TAPE + 1];
        private int told = 0;

        void cut(byte[] text, int n) {
            told = 0;
            int next = 0;
            for (int at = 0; at < n; at++) {
                if (at >= next && text[at] != ' ' && text[at] != '\n') {
                    next = cutOne(text, at, n);
                }
            }
            put(END, 0, n);
        }

        /** Puts the token that begins here; answers where it ends. */
        private int cutOne(byte[] text, int at, int n) {
            int end = at + 1;
            if (isLetter(text[at])) {
                while (end < n && isLetter(text[end])) {
                    end++;
                }
                put(wordOf(text, at, end), 0, at);
            } else if (isDigit(text[at])) {
                int v = text[at] - '0';
                while (end < n && isDigit(text[end])) {
                    v = end - at < 3 ? 10 * v + text[end] - '0' : v;
                    end++;
                }
                put(end - at > 3 ? BAD : NUMBER, v, at);
            } else {
                char sign = (char) (text[at] & 255);
                put(SIGNS.indexOf(sign) >= 0 ? sign : BAD, 0, at);
            }
            return end;
        }

        private void put(int what, int number, int at) {
            if (told <= TAPE) {
                kind[told] = what;
                value[told] = number;
                start[told] = at;
                told++;
            }
        }

        private static boolean isLetter(byte b) {
            return b >= 'a' && b <= 'z';
        }

        private static boolean isDigit(byte b) {
            return b >= '0' && b <= '9';
        }

        private static int wordOf(byte[] text, int from, int to) {
            int word = ROPE;
            int at = from;
            boolean same = true;
            for (int i = 0; i < WORDS.length(); i++) {
                char sign = WORDS.charAt(i);
                if (sign != ' ') {
                    same = same && at < to && text[at] == sign;
                    at++;
                } else if (same && at == to) {
                    return word;
                } else {
                    word++;
                    at = from;
                    same = true;
                }
            }
            return STRANGE;
        }
    }

    /** Reads a text into a draft of an island; after a fault every token is an end. */
    private static final class Reader {
        private static final int DEEPEST = 6;

        private final Tokens tokens = new Tokens();
        final Isle isle = new Isle();
        final Life life = new Life();
        int fault = 0;
        int faultPlace = NONE;
        private int at = 0;
        private int houseBits = 0;
        private int peopleBits = 0;
        private Law law = isle.lengthLaw;

        void read(byte[] text, int n) {
            tokens.cut(text, n);
            fault = 0;
            faultPlace = NONE;
            at = 0;
            houseBits = 0;
            peopleBits = 0;
            isle.wipe();
            life.wipe();
            readHead();
            for (int i = 0; i < TAPE && token() != Tokens.END; i++) {
                readLine();
            }
            // Rain is told for so many hours; the first of them may be told behind it.
            life.rainEnd += life.hour;
        }

        private int token() {
            return fault != 0 || at > TAPE ? Tokens.END : tokens.kind[at];
        }

        private void refuse(int kind) {
            if (fault == 0 && at <= TAPE) {
                fault = tokens.kind[at] == Tokens.BAD ? 1 : kind;
                faultPlace = tokens.start[at];
            }
        }

        private void take(int kind) {
            if (token() == kind) {
                at++;
            } else {
                refuse(2);
            }
        }

        /** Takes a number; 0 with a fault. */
        private int number(int least, int most) {
            if (token() != Tokens.NUMBER) {
                refuse(2);
                return 0;
            }
            int v = tokens.value[at];
            if (v < least || v > most) {
                refuse(3);
                return 0;
            }
            at++;
            return v;
        }

        private int takePlace(int taboo) {
            int x = number(0, isle.wide - 1);
            int y = number(0, isle.high - 1);
            int k = isle.wide * y + x;
            if (fault == 0 && (taboo >>> k & 1) != 0) {
                // The fault is told of y, which was just taken.
                at--;
                refuse(3);
            }
            return k;
        }

        private void readHead() {
            take(Tokens.ISLAND);
            isle.wide = number(2, 5);
            isle.high = number(2, 5);
            take(';');
            isle.lines = 1;
        }

        private void readLine() {
            switch (token()) {
                case Tokens.ROCK: readRock(); break;
                case Tokens.HOUSE: readHouse(); break;
                case Tokens.PAIR: readPair(); break;
                case Tokens.LENGTH: readLengthLaw(); break;
                case Tokens.MAY: readMayLaw(); break;
                case Tokens.RAIN: readRain(); break;
                case Tokens.HOUR: readHour(); break;
                default: refuse(2); break;
            }
            take(';');
            isle.lines++;
        }

        private void readRock() {
            at++;
            isle.rocks |= 1 << takePlace(houseBits | peopleBits);
        }

        private void readHouse() {
            if (isle.houses >= HOUSES) {
                refuse(4);
                return;
            }
            at++;
            int k = takePlace(isle.rocks | houseBits);
            houseBits |= 1 << k;
            isle.houseAt[isle.houses] = k;
            isle.houses++;
        }

        private void readPair() {
            int p = isle.pairs;
            if (p >= PAIRS) {
                refuse(4);
                return;
            }
            at++;
            isle.rope[p] = number(1, 20);
            take(Tokens.AT);
            life.first[p] = takePlace(isle.rocks);
            take(Tokens.AND);
            life.second[p] = takePlace(isle.rocks);
            if (token() == Tokens.KNOTS) {
                at++;
                life.knots[p] = number(0, 9);
            }
            peopleBits |= 1 << life.first[p] | 1 << life.second[p];
            isle.pairs++;
        }

        private void readRain() {
            at++;
            life.hard = number(0, 9);
            take(Tokens.FOR);
            life.rainEnd = number(1, 99);
        }

        private void readHour() {
            at++;
            life.hour = number(0, 999);
        }

        private void readLengthLaw() {
            at++;
            take(':');
            law = isle.lengthLaw;
            law.begin(Tokens.ROPE, Tokens.PAIR);
            readSum(0);
        }

        private void readMayLaw() {
            at++;
            take(':');
            law = isle.mayLaw;
            law.begin(Tokens.RAIN, Tokens.WHO);
            readTruth(0);
        }

        /** Takes the first token of what lies within, deep being how many it lies within ahead of it. */
        private boolean opens(int deep) {
            if (deep >= DEEPEST) {
                refuse(4);
                return false;
            }
            at++;
            return true;
        }

        private void readTruth(int deep) {
            readBoth(deep);
            for (int i = 0; i < TAPE && token() == Tokens.OR; i++) {
                at++;
                readBoth(deep);
                law.put(Tokens.OR);
            }
        }

        private void readBoth(int deep) {
            readUnit(deep);
            for (int i = 0; i < TAPE && token() == Tokens.AND; i++) {
                at++;
                readUnit(deep);
                law.put(Tokens.AND);
            }
        }

        private void readUnit(int deep) {
            int kind = token();
            if (kind == Tokens.NOT) {
                if (opens(deep)) {
                    readUnit(deep + 1);
                    law.put(Tokens.NOT);
                }
            } else if (kind == '[') {
                if (opens(deep)) {
                    readTruth(deep + 1);
                    take(']');
                }
            } else {
                readSum(deep);
                int sign = token();
                if (sign == '=' || sign == '<' || sign == '>') {
                    at++;
                    readSum(deep);
                    law.put(sign);
                } else {
                    refuse(2);
                }
            }
        }

        private void readSum(int deep) {
            readTerm(deep);
            for (int i = 0; i < TAPE && (token() == '+' || token() == '-'); i++) {
                int sign = token();
                at++;
                readTerm(deep);
                law.put(sign);
            }
        }

        private void readTerm(int deep) {
            readAtom(deep);
            for (int i = 0; i < TAPE && token() == '*'; i++) {
                at++;
                readAtom(deep);
                law.put('*');
            }
        }

        private void readAtom(int deep) {
            int kind = token();
            if (kind == '(') {
                if (opens(deep)) {
                    readSum(deep + 1);
                    take(')');
                }
            } else if (kind == Tokens.NUMBER) {
                law.put(Law.FIRST_NUMBER + tokens.value[at]);
                at++;
            } else if (law.knows(kind)) {
                law.put(kind);
                at++;
            } else {
                refuse(2);
            }
        }
    }

    /** A law in the order in which it is worked out: what is joined stands ahead of its sign. */
    private static final class Law {
        private static final int FIRST_NUMBER = 1000;
        private static final int DEEP = 64;
        private static final int KEPT = 1000000;

        private final int[] code = new int[TAPE];
        private int size = 0;
        // Which names may stand in it while it is read.
        private int firstName = 0;
        private int lastName = -1;
        boolean told = false;
        boolean readsHour = false;
        boolean readsRain = false;

        void wipe() {
            told = false;
            size = 0;
            readsHour = false;
            readsRain = false;
        }

        /** A law, told anew, that knows the names from the one to the other. */
        void begin(int first, int last) {
            wipe();
            told = true;
            firstName = first;
            lastName = last;
        }

        boolean knows(int name) {
            return name >= firstName && name <= lastName;
        }

        void put(int what) {
            readsHour |= what == Tokens.HOUR;
            readsRain |= what == Tokens.RAIN;
            if (size < TAPE) {
                code[size] = what;
                size++;
            }
        }

        void copyFrom(Law from) {
            System.arraycopy(from.code, 0, code, 0, from.size);
            size = from.size;
            told = from.told;
            readsHour = from.readsHour;
            readsRain = from.readsRain;
        }

        /** What it comes to, with what each name stands for; a truth is 1 or 0. */
        long worth(int[] names, long[] stack) {
            int top = -1;
            for (int i = 0; i < size; i++) {
                int what = code[i];
                if (what >= Tokens.ROPE && what <= Tokens.WHO || what >= FIRST_NUMBER) {
                    if (top >= DEEP - 1) {
                        return 0;
                    }
                    top++;
                    stack[top] = what >= FIRST_NUMBER ? what - FIRST_NUMBER : names[what - Tokens.ROPE];
                    continue;
                }
                int left = what == Tokens.NOT ? top : top - 1;
                if (left < 0) {
                    return 0;
                }
                long a = stack[left];
                long b = stack[top];
                long v;
                switch (what) {
                    case Tokens.NOT: v = 1 - a; break;
                    case Tokens.AND: v = a & b; break;
                    case Tokens.OR: v = a | b; break;
                    case '=': v = a == b ? 1 : 0; break;
                    case '<': v = a < b ? 1 : 0; break;
                    case '>': v = a > b ? 1 : 0; break;
                    case '+': v = a + b; break;
                    case '-': v = a - b; break;
                    default: v = a * b; break;
                }
                top = left;
                stack[top] = v > KEPT ? KEPT : v < -KEPT ? -KEPT : v;
            }
            return top < 0 ? 0 : stack[0];
        }
    }

    /** What never changes on an island: its size, rocks, houses, ropes and laws. */
    private static final class Isle {
        int lines = 0;
        int wide = 0;
        int high = 0;
        int rocks = 0;
        int houses = 0;
        int pairs = 0;
        final int[] houseAt = new int[HOUSES];
        final int[] rope = new int[PAIRS];
        final Law lengthLaw = new Law();
        final Law mayLaw = new Law();

        void wipe() {
            lines = 0;
            wide = 0;
            high = 0;
            rocks = 0;
            houses = 0;
            pairs = 0;
            lengthLaw.wipe();
            mayLaw.wipe();
        }

        void copyFrom(Isle from) {
            lines = from.lines;
            wide = from.wide;
            high = from.high;
            rocks = from.rocks;
            houses = from.houses;
            pairs = from.pairs;
            System.arraycopy(from.houseAt, 0, houseAt, 0, HOUSES);
            System.arraycopy(from.rope, 0, rope, 0, PAIRS);
            lengthLaw.copyFrom(from.lengthLaw);
            mayLaw.copyFrom(from.mayLaw);
        }

        int places() {
            return wide * high;
        }

        boolean isRock(int k) {
            return (rocks >>> k & 1) != 0;
        }

        boolean houseStandsAt(int k) {
            for (int h = 0; h < houses && h < HOUSES; h++) {
                if (houseAt[h] == k) {
                    return true;
                }
            }
            return false;
        }

        /** The place beside one by a turn; NONE off the island. */
        int beside(int k, int turn) {
            if (wide < 1) {
                return NONE;
            }
            int x = k % wide;
            switch (turn) {
                case 0: return k;
                case 1: return k >= wide ? k - wide : NONE;
                case 2: return x < wide - 1 ? k + 1 : NONE;
                case 3: return k + wide < places() ? k + wide : NONE;
                case 4: return x > 0 ? k - 1 : NONE;
                default: return NONE;
            }
        }

        int apart(int j, int k) {
            if (wide < 1) {
                return 0;
            }
            int inX = j % wide - k % wide;
            int inY = j / wide - k / wide;
            return (inX < 0 ? -inX : inX) + (inY < 0 ? -inY : inY);
        }
    }

    /** What changes on an island: the hour, the rain, where all are, their knots, who is parted. */
    private static final class Life {
        int hour = 0;
        int hard = 0;
        int rainEnd = 0;
        int parted = 0;
        final int[] first = new int[PAIRS];
        final int[] second = new int[PAIRS];
        final int[] knots = new int[PAIRS];

        void wipe() {
            hour = 0;
            hard = 0;
            rainEnd = 0;
            parted = 0;
            Arrays.fill(first, 0);
            Arrays.fill(second, 0);
            Arrays.fill(knots, 0);
        }

        void copyFrom(Life from) {
            hour = from.hour;
            hard = from.hard;
            rainEnd = from.rainEnd;
            parted = from.parted;
            System.arraycopy(from.first, 0, first, 0, PAIRS);
            System.arraycopy(from.second, 0, second, 0, PAIRS);
            System.arraycopy(from.knots, 0, knots, 0, PAIRS);
        }

        int rainIn(int anHour) {
            return anHour < rainEnd ? hard : 0;
        }

        void letRain(int howHard, int hours) {
            hard = howHard;
            rainEnd = hour + hours;
        }

        boolean isParted(int p) {
            return (parted >>> p & 1) != 0;
        }
    }

    /** An island as it is now, with the deeds that can be undone. */
    private static final class World {
        private static final int TOLD_RAIN = 6;

        final Isle isle = new Isle();
        final Life life = new Life();
        int kept = 0;
        int draw = 0;
        private int newest = 0;
        private final Life[] past = new Life[DEEDS];
        private final Life aside = new Life();
        private final int[] names = new int[8];
        private final long[] stack = new long[Law.DEEP];

        World() {
            for (int i = 0; i < DEEDS; i++) {
                past[i] = new Life();
            }
        }

        void begin(Isle anIsle, Life aLife) {
            isle.copyFrom(anIsle);
            life.copyFrom(aLife);
            kept = 0;
        }

        void copyFrom(World from) {
            isle.copyFrom(from.isle);
            life.copyFrom(from.life);
            kept = from.kept;
            newest = from.newest;
            for (int i = 0; i < DEEDS; i++) {
                past[i].copyFrom(from.past[i]);
            }
        }

        // Deeds that were done

        void remember() {
            newest = (newest + 1) % DEEDS;
            past[newest].copyFrom(life);
            kept = Math.min(kept + 1, DEEDS);
        }

        void goBack(int n) {
            int oldest = (newest + 1 - n + DEEDS) % DEEDS;
            life.copyFrom(past[oldest]);
            newest = (newest - n + DEEDS) % DEEDS;
            kept -= n;
        }

        void setAside() {
            aside.copyFrom(life);
        }

        void takeUpAgain() {
            life.copyFrom(aside);
        }

        // What is

        int peopleAt(int k) {
            int many = 0;
            for (int p = 0; p < isle.pairs && p < PAIRS; p++) {
                many += life.first[p] == k ? 1 : 0;
                many += life.second[p] == k ? 1 : 0;
            }
            return many;
        }

        int apart(int p) {
            return isle.apart(life.first[p], life.second[p]);
        }

        int ropeIn(int p, int hour) {
            return lengthOf(p, isle.rope[p], hour);
        }

        int lengthOf(int p, int rope, int hour) {
            if (!isle.lengthLaw.told) {
                return Math.max(0, rope - life.knots[p]);
            }
            names[0] = rope;
            names[Tokens.KNOTS - Tokens.ROPE] = life.knots[p];
            names[Tokens.RAIN - Tokens.ROPE] = life.rainIn(hour);
            names[Tokens.HOUR - Tokens.ROPE] = hour % 24;
            names[Tokens.PAIR - Tokens.ROPE] = p;
            long v = isle.lengthLaw.worth(names, stack);
            return v < 0 ? 0 : v > 99 ? 99 : (int) v;
        }

        /** Those of the places from one to another where the law may holds, rocks or not, as bits. */
        int lawBits(int p, int who, int hour, int from, int to) {
            int wide = isle.wide;
            int bits = 0;
            names[Tokens.WHO - Tokens.ROPE] = who;
            names[Tokens.PAIR - Tokens.ROPE] = p;
            names[Tokens.RAIN - Tokens.ROPE] = life.rainIn(hour);
            names[Tokens.HOUR - Tokens.ROPE] = hour % 24;
            for (int k = from; k < to && wide > 0; k++) {
                names[Tokens.X - Tokens.ROPE] = k % wide;
                names[Tokens.Y - Tokens.ROPE] = k / wide;
                if (!isle.mayLaw.told || isle.mayLaw.worth(names, stack) != 0) {
                    bits |= 1 << k;
                }
            }
            return bits;
        }

        int tooFarApart() {
            int bits = 0;
            for (int p = 0; p < isle.pairs && p < PAIRS; p++) {
                if (!life.isParted(p) && apart(p) > lengthOf(p, isle.rope[p], life.hour)) {
                    bits |= 1 << p;
                }
            }
            return bits;
        }

        // What is done

        void passHour() {
            life.hour++;
            life.parted |= tooFarApart();
        }

        /** Where a turn of one leads to within the coming hour; NONE where it can't. */
        private int turned(int p, int who, int turn) {
            int from = who == 0 ? life.first[p] : life.second[p];
            int to = isle.beside(from, turn);
            if (turn == 0 || to == NONE) {
                return to;
            }
            boolean open = !isle.isRock(to) && lawBits(p, who, life.hour + 1, to, to + 1) != 0;
            return open ? to : NONE;
        }

        int whyNoStep(int p, int first, int second) {
            if (p < 0 || p >= isle.pairs || p >= PAIRS) {
                return 1;
            }
            if (first < 0 || first >= TURNS || second < 0 || second >= TURNS) {
                return 1;
            }
            int j = turned(p, 0, first);
            int k = turned(p, 1, second);
            if (j == NONE || k == NONE) {
                return 2;
            }
            boolean holds = life.isParted(p) || isle.apart(j, k) <= ropeIn(p, life.hour + 1);
            return holds ? 0 : 3;
        }

        /** The turns of a step that can be; its hour is yet to go by. */
        void walk(int p, int first, int second) {
            life.first[p] = isle.beside(life.first[p], first);
            life.second[p] = isle.beside(life.second[p], second);
        }

        /** Does a told deed, if it can be; why it can't, 0 if it can. */
        int doTold(long v, boolean asDeed) {
            int n = v < NONE || v > 2009 ? -2 : (int) v;
            boolean step = n >= 0 && n < 400;
            boolean knots = n >= 1000 && n < 1040 && (n - 1000) / 10 < isle.pairs;
            boolean can = step || knots || n == NONE || n >= 2000;
            int why = step ? whyNoStep(n / 100, n / 10 % 10, n % 10) : can ? 0 : 1;
            if (why != 0) {
                return why;
            }
            if (asDeed) {
                remember();
            }
            if (knots) {
                life.knots[(n - 1000) / 10] = n % 10;
            } else if (n >= 2000) {
                life.letRain(n - 2000, TOLD_RAIN);
            } else {
                if (step) {
                    walk(n / 100, n / 10 % 10, n % 10);
                }
                passHour();
            }
            return 0;
        }

        // Seasons

        private int drawBelow(int n) {
            draw = 1103515245 * draw + 12345;
            return n < 1 ? 0 : (draw >>> 16) % n;
        }

        /** Does a deed by draws, told as in a tray; whether it could be. */
        boolean drawDeed() {
            int sort = drawBelow(5);
            if (sort == 0) {
                return doTold(NONE, true) == 0;
            }
            if (isle.pairs == 0) {
                return false;
            }
            if (sort == 4) {
                return doTold(2000 + drawBelow(10), true) == 0;
            }
            int p = drawBelow(isle.pairs);
            if (sort == 3) {
                return doTold(1000 + 10 * p + drawBelow(10), true) == 0;
            }
            int first = drawBelow(TURNS);
            int second = drawBelow(TURNS);
            return doTold(100 * p + 10 * first + second, true) == 0;
        }
    }

    /**
     * The hours to come of one pair. sets holds, for each hour and each place of the first, the
     * places where the second can be then, as bits.
     */
    private static final class Ahead {
        final World world = new World();
        private final int[] openFirst = new int[HORIZON + 1];
        private final int[] openSecond = new int[HORIZON + 1];
        private final int[] tether = new int[HORIZON + 1];
        private final int[] near = new int[(FARTHEST + 1) * PLACES];
        private final int[] sets = new int[(HORIZON + 1) * PLACES];
        private final int[] back = new int[(HORIZON + 1) * PLACES];
        private final int[] spread = new int[PLACES];
        final int[] turns = new int[HORIZON + 1];
        int places = 0;
        private int wide = 0;
        private int lastColumn = 0;
        private int p = 0;
        private int rocks = 0;
        private int rope = 0;
        private boolean tied = true;
        // Up to which hour the tables of where they may go, and of how long the rope is, are filled.
        private int opened = 0;
        private int bound = 0;

        void begin(int aPair) {
            Isle isle = world.isle;
            p = aPair;
            rocks = isle.rocks;
            opened = 0;
            if (wide != isle.wide || places != isle.places()) {
                wide = isle.wide;
                places = isle.places();
                fillNear();
            }
            bind(isle.rope[p], !world.life.isParted(p));
        }

        /** From now on with another rope, or with none. */
        void bind(int aRope, boolean isTied) {
            rope = aRope;
            tied = isTied;
            bound = 0;
        }

        private void fillNear() {
            Arrays.fill(near, 0);
            lastColumn = 0;
            for (int j = 0; j < places; j++) {
                lastColumn |= world.isle.beside(j, 2) == NONE ? 1 << j : 0;
                for (int k = 0; k < places; k++) {
                    for (int far = world.isle.apart(j, k); far <= FARTHEST; far++) {
                        near[far * PLACES + j] |= 1 << k;
                    }
                }
            }
        }

        /** Fills the tables up to an hour. */
        void foresee(int h) {
            Law law = world.isle.mayLaw;
            for (int i = opened + 1; i <= h; i++) {
                int hour = world.life.hour + i;
                boolean rained = world.life.rainIn(hour) != world.life.rainIn(hour - 1);
                if (i > 1 && !law.readsHour && !(law.readsRain && rained)) {
                    openFirst[i] = openFirst[i - 1];
                    openSecond[i] = openSecond[i - 1];
                } else {
                    openFirst[i] = world.lawBits(p, 0, hour, 0, places);
                    openSecond[i] = world.lawBits(p, 1, hour, 0, places);
                }
            }
            opened = Math.max(opened, h);
            for (int i = bound + 1; i <= h; i++) {
                int length = tied ? world.lengthOf(p, rope, world.life.hour + i) : FARTHEST;
                tether[i] = Math.min(FARTHEST, length);
            }
            bound = Math.max(bound, h);
        }

        /** Where those of some places come to by a turn other than staying. */
        private int around(int bits) {
            int all = (1 << places) - 1;
            return bits >>> wide | bits << wide & all
                    | (bits & ~lastColumn) << 1 | bits >>> 1 & ~lastColumn;
        }

        void start() {
            for (int j = 0; j < PLACES; j++) {
                sets[j] = 0;
            }
            sets[world.life.first[p]] = 1 << world.life.second[p];
        }

        /** The hour's sets from those of the hour before; whether there is a way on. */
        boolean stepOn(int[] from, int fromAt, int[] to, int toAt, int h) {
            foresee(h);
            int firstOpen = openFirst[h] & ~rocks;
            int secondOpen = openSecond[h] & ~rocks;
            for (int j = 0; j < places; j++) {
                int bits = from[fromAt + j];
                spread[j] = bits == 0 ? 0 : bits | around(bits) & secondOpen;
            }
            int any = 0;
            for (int j = 0; j < places; j++) {
                int bits = spread[j];
                if ((firstOpen >>> j & 1) != 0) {
                    bits |= spreadAround(j);
                }
                to[toAt + j] = bits & near[tether[h] * PLACES + j];
                any |= to[toAt + j];
            }
            return any != 0;
        }

        private int spreadAround(int j) {
            int north = j >= wide ? spread[j - wide] : 0;
            int east = (lastColumn >>> j & 1) == 0 ? spread[j + 1] : 0;
            int south = j + wide < places ? spread[j + wide] : 0;
            int west = j > 0 && (lastColumn >>> j - 1 & 1) == 0 ? spread[j - 1] : 0;
            return north | east | south | west;
        }

        private boolean goOn(int h) {
            return stepOn(sets, (h - 1) * PLACES, sets, h * PLACES, h);
        }

        /** Fills the sets of all hours up to one; whether there is a way on so long. */
        boolean goTo(int n) {
            start();
            for (int h = 1; h <= n; h++) {
                if (!goOn(h)) {
                    return false;
                }
            }
            return true;
        }

        int lastHour() {
            start();
            for (int h = 1; h <= HORIZON; h++) {
                if (!goOn(h)) {
                    return h - 1;
                }
            }
            return HORIZON;
        }

        /** The hour's sets with the first at a place (NONE: anywhere); whether there are any. */
        boolean watchTo(int h, int seen) {
            if (!goOn(h)) {
                return false;
            }
            int any = 0;
            for (int j = 0; j < places; j++) {
                if (seen != NONE && j != seen) {
                    sets[h * PLACES + j] = 0;
                }
                any |= sets[h * PLACES + j];
            }
            return any != 0;
        }

        int whereIs(int who, int h) {
            int bits = 0;
            for (int j = 0; j < places; j++) {
                int set = sets[h * PLACES + j];
                if (who == 1) {
                    bits |= set;
                } else if (set != 0) {
                    bits |= 1 << j;
                }
            }
            return bits;
        }

        int whereBoth(int h) {
            int bits = 0;
            for (int j = 0; j < places; j++) {
                bits |= sets[h * PLACES + j] & 1 << j;
            }
            return bits;
        }

        int mealHour() {
            start();
            for (int h = 0; h <= HORIZON; h++) {
                if (h > 0 && !goOn(h)) {
                    return NONE;
                }
                if (whereBoth(h) != 0) {
                    return h;
                }
            }
            return NONE;
        }

        int widest(int h) {
            int most = NONE;
            for (int j = 0; j < places; j++) {
                for (int k = 0; k < places; k++) {
                    if ((sets[h * PLACES + j] >>> k & 1) != 0) {
                        most = Math.max(most, world.isle.apart(j, k));
                    }
                }
            }
            return most;
        }

        int hoursOfOne(int who, int k) {
            start();
            for (int h = 0; h <= HORIZON; h++) {
                if (h > 0 && !goOn(h)) {
                    return NONE;
                }
                if ((whereIs(who, h) >>> k & 1) != 0) {
                    return h;
                }
            }
            return NONE;
        }

        /** The hours of a way with such rocks; NONE without one. */
        int hoursTo(int j, int k, int withRocks) {
            rocks = withRocks;
            start();
            for (int h = 0; h <= HORIZON; h++) {
                if (h > 0 && !stepOn(sets, (h - 1) * PLACES, sets, h * PLACES, h)) {
                    return NONE;
                }
                if ((sets[h * PLACES + j] >>> k & 1) != 0) {
                    return h;
                }
            }
            return NONE;
        }

        /** The way's hours, its turns in turns from 1 on; NONE without one. */
        int findWay(int j, int k) {
            int hours = hoursTo(j, k, rocks);
            if (hours == NONE) {
                return NONE;
            }
            traceBack(j, k, hours);
            int first = world.life.first[p];
            int second = world.life.second[p];
            for (int h = 1; h <= hours; h++) {
                turns[h] = bestTurns(first, second, h);
                first = world.isle.beside(first, turns[h] / 10);
                second = world.isle.beside(second, turns[h] % 10);
            }
            return hours;
        }

        /** Keeps in back, of each hour's sets, those from which the end is come to in time. */
        private void traceBack(int j, int k, int hours) {
            Arrays.fill(back, 0);
            back[hours * PLACES + j] = 1 << k;
            for (int h = hours; h >= 1; h--) {
                int at = h * PLACES;
                int secondOpen = openSecond[h] & ~rocks;
                int firstOpen = openFirst[h] & ~rocks;
                Arrays.fill(spread, 0);
                for (int i = 0; i < places; i++) {
                    back[at - PLACES + i] = back[at + i] | around(back[at + i] & secondOpen);
                    spread[i] = (firstOpen >>> i & 1) != 0 ? back[at - PLACES + i] : 0;
                }
                for (int i = 0; i < places; i++) {
                    int bits = back[at - PLACES + i] | spreadAround(i);
                    back[at - PLACES + i] = bits & sets[at - PLACES + i];
                }
            }
        }

        /** The first turns of both from two places that keep to the sets of back. */
        private int bestTurns(int first, int second, int h) {
            for (int t = 0; t < TURNS; t++) {
                int j = landing(0, first, t, h);
                int set = j == NONE ? 0 : back[h * PLACES + j];
                for (int u = 0; u < TURNS && set != 0; u++) {
                    int k = landing(1, second, u, h);
                    if (k != NONE && (set >>> k & 1) != 0) {
                        return 10 * t + u;
                    }
                }
            }
            return 0;
        }

        /** Where a turn of one leads to by an hour whose tables are filled; NONE where it can't. */
        int landing(int who, int from, int turn, int h) {
            int to = world.isle.beside(from, turn);
            if (turn == 0 || to == NONE) {
                return to;
            }
            int open = (who == 0 ? openFirst[h] : openSecond[h]) & ~rocks;
            return (open >>> to & 1) != 0 ? to : NONE;
        }

        boolean holds(int j, int k, int h) {
            return (near[tether[h] * PLACES + j] >>> k & 1) != 0;
        }

        int startFirst() {
            return world.life.first[p];
        }

        int startSecond() {
            return world.life.second[p];
        }

        /** Which places all ways need, a way of so many hours being found. */
        int neededPlaces(int j, int k, int hours) {
            int first = startFirst();
            int second = startSecond();
            int ends = 1 << first | 1 << second | 1 << j | 1 << k;
            int passed = 0;
            for (int h = 1; h <= hours; h++) {
                first = world.isle.beside(first, turns[h] / 10);
                second = world.isle.beside(second, turns[h] % 10);
                passed |= 1 << first | 1 << second;
            }
            int bits = 0;
            // A place that this way doesn't pass is none that all ways need.
            for (int i = 0; i < places; i++) {
                boolean asked = (passed & ~ends & 1 << i) != 0;
                if (asked && hoursTo(j, k, world.isle.rocks | 1 << i) == NONE) {
                    bits |= 1 << i;
                }
            }
            return bits;
        }

        /** The rock without which the way is soonest, and sooner than it is. */
        int rockInTheWay(int j, int k) {
            int now = hoursTo(j, k, world.isle.rocks);
            int least = now == NONE ? HORIZON + 1 : now;
            int best = NONE;
            for (int i = 0; i < places; i++) {
                if (world.isle.isRock(i)) {
                    int hours = hoursTo(j, k, world.isle.rocks & ~(1 << i));
                    if (hours != NONE && hours < least) {
                        least = hours;
                        best = i;
                    }
                }
            }
            return best;
        }
    }

    /** In how many unlike ways both come to each two places. */
    private static final class Tally {
        private long[] now = new long[PLACES * PLACES];
        private long[] next = new long[PLACES * PLACES];
        private final int[] landings = new int[TURNS];
        private int places = 0;

        void start(Ahead ahead) {
            places = ahead.places;
            Arrays.fill(now, 0);
            now[ahead.startFirst() * PLACES + ahead.startSecond()] = 1;
        }

        /** One hour more; the first is seen at a place (NONE: anywhere). */
        void goOn(Ahead ahead, int h, int seen) {
            ahead.foresee(h);
            Arrays.fill(next, 0);
            for (int j = 0; j < places; j++) {
                for (int k = 0; k < places; k++) {
                    if (now[j * PLACES + k] != 0) {
                        push(ahead, j, k, h, seen);
                    }
                }
            }
            long[] spare = now;
            now = next;
            next = spare;
        }

        private void push(Ahead ahead, int j, int k, int h, int seen) {
            long many = now[j * PLACES + k];
            for (int u = 0; u < TURNS; u++) {
                landings[u] = ahead.landing(1, k, u, h);
            }
            for (int t = 0; t < TURNS; t++) {
                int to = ahead.landing(0, j, t, h);
                boolean fits = to != NONE && (seen == NONE || to == seen);
                for (int u = 0; u < TURNS && fits; u++) {
                    if (landings[u] != NONE && ahead.holds(to, landings[u], h)) {
                        next[to * PLACES + landings[u]] += many;
                    }
                }
            }
        }

        long at(int j, int k) {
            return now[j * PLACES + k];
        }

        private long endingAt(int k) {
            long many = 0;
            for (int j = 0; j < places; j++) {
                many += now[j * PLACES + k];
            }
            return many;
        }

        long total() {
            long many = 0;
            for (int k = 0; k < places; k++) {
                many += endingAt(k);
            }
            return many;
        }

        int tellsMost() {
            long all = total();
            long most = -1;
            int best = NONE;
            for (int k = 0; k < places && all > 0; k++) {
                long there = endingAt(k);
                long lesser = Math.min(there, all - there);
                if (lesser > most) {
                    most = lesser;
                    best = k;
                }
            }
            return best;
        }
    }

    /** Errands of both: sets of where both can be, for each of the sets of errands that are done. */
    private static final class Chores {
        static final int MOST = 4;

        final int[] told = new int[MOST];
        int many = 0;
        private int[] now = new int[(1 << MOST) * PLACES];
        private int[] next = new int[(1 << MOST) * PLACES];
        private final int[] arrived = new int[PLACES];
        private int asked = 0;

        int hoursForAll(Ahead ahead) {
            int all = (1 << many) - 1;
            start(ahead);
            for (int h = 0; h <= HORIZON; h++) {
                if (h > 0 && !goOn(ahead, h)) {
                    return NONE;
                }
                if (isDone(all)) {
                    return h;
                }
            }
            return NONE;
        }

        int bestDropped(Ahead ahead) {
            int all = (1 << many) - 1;
            start(ahead);
            for (int h = 0; h <= HORIZON; h++) {
                if (h > 0 && !goOn(ahead, h)) {
                    return NONE;
                }
                for (int i = 0; i < many; i++) {
                    if (isDone(all) || isDone(all & ~(1 << i))) {
                        return i;
                    }
                }
            }
            return NONE;
        }

        private void start(Ahead ahead) {
            asked = 0;
            for (int i = 0; i < many; i++) {
                asked |= told[i] >= 100 ? 1 << told[i] - 100 : 0;
            }
            Arrays.fill(now, 0);
            Arrays.fill(arrived, 0);
            arrived[ahead.startFirst()] = 1 << ahead.startSecond();
            sortArrived(0, now);
        }

        private boolean goOn(Ahead ahead, int h) {
            boolean any = false;
            Arrays.fill(next, 0);
            for (int done = 0; done < 1 << many; done++) {
                if (isDone(done) && ahead.stepOn(now, done * PLACES, arrived, 0, h)) {
                    any = true;
                    sortArrived(done, next);
                }
            }
            int[] spare = now;
            now = next;
            next = spare;
            return any;
        }

        /** Whether they can be anywhere with just these errands done. */
        private boolean isDone(int done) {
            for (int j = 0; j < PLACES; j++) {
                if (now[done * PLACES + j] != 0) {
                    return true;
                }
            }
            return false;
        }

        /** Adds those that arrived with some errands done to the sets of all that are done then. */
        private void sortArrived(int done, int[] to) {
            for (int j = 0; j < PLACES; j++) {
                int bits = arrived[j];
                if (bits != 0) {
                    int byFirst = done | errandsAt(j);
                    to[byFirst * PLACES + j] |= bits & ~asked;
                    for (int i = 0; i < many; i++) {
                        int k = told[i] - 100;
                        if (k >= 0 && (bits >>> k & 1) != 0) {
                            int all = byFirst | errandsAt(told[i]);
                            to[all * PLACES + j] |= 1 << k;
                        }
                    }
                }
            }
        }

        private int errandsAt(int whoAndPlace) {
            int bits = 0;
            for (int i = 0; i < many; i++) {
                bits |= told[i] == whoAndPlace ? 1 << i : 0;
            }
            return bits;
        }
    }

    /** Houses for all pairs; a set of houses that are taken tells how many pairs have theirs. */
    private static final class Homes {
        private static final int FAR = 1000;

        private final int[] found = new int[1 << HOUSES];
        private final int[] best = new int[1 << HOUSES];
        private final int[] tether = new int[PAIRS];
        final int[] homeOf = new int[2 * PAIRS];

        private void measure(World world) {
            for (int p = 0; p < world.isle.pairs; p++) {
                tether[p] = world.life.isParted(p) ? FARTHEST : world.ropeIn(p, world.life.hour);
            }
        }

        private boolean canHave(Isle isle, int p, int taken, int g, int h) {
            boolean free = g != h && (taken >>> g & 1) == 0 && (taken >>> h & 1) == 0;
            return free && isle.apart(isle.houseAt[g], isle.houseAt[h]) <= tether[p];
        }

        /** How many ways there are, some houses being nobody's. */
        int waysWithout(World world, int banned) {
            int pairs = world.isle.pairs;
            int all = 1 << world.isle.houses;
            int ways = 0;
            measure(world);
            Arrays.fill(found, 0);
            found[0] = 1;
            for (int taken = 0; taken < all; taken++) {
                int p = Integer.bitCount(taken) / 2;
                if (p >= pairs) {
                    ways += found[taken];
                } else if (found[taken] != 0) {
                    pushFrom(world, taken, p, banned);
                }
            }
            return ways;
        }

        private void pushFrom(World world, int taken, int p, int banned) {
            int houses = world.isle.houses;
            for (int g = 0; g < houses; g++) {
                for (int h = 0; h < houses; h++) {
                    if (canHave(world.isle, p, taken | banned, g, h)) {
                        found[taken | 1 << g | 1 << h] += found[taken];
                    }
                }
            }
        }

        /** The shortest way, its houses in homeOf: how far in all; NONE without one. */
        int settle(World world) {
            int all = 1 << world.isle.houses;
            measure(world);
            for (int taken = all - 1; taken >= 0; taken--) {
                int p = Integer.bitCount(taken) / 2;
                best[taken] = p >= world.isle.pairs ? 0 : leastFrom(world, taken, p);
            }
            if (best[0] >= FAR) {
                return NONE;
            }
            int taken = 0;
            for (int p = 0; p < world.isle.pairs; p++) {
                taken = takeFirst(world, taken, p);
            }
            return best[0];
        }

        private int cost(World world, int p, int g, int h) {
            Isle isle = world.isle;
            return isle.apart(world.life.first[p], isle.houseAt[g])
                    + isle.apart(world.life.second[p], isle.houseAt[h]);
        }

        private int leastFrom(World world, int taken, int p) {
            int houses = world.isle.houses;
            int least = FAR;
            for (int g = 0; g < houses; g++) {
                for (int h = 0; h < houses; h++) {
                    if (canHave(world.isle, p, taken, g, h)) {
                        least = Math.min(least, cost(world, p, g, h) + best[taken | 1 << g | 1 << h]);
                    }
                }
            }
            return least;
        }

        /** Gives a pair the first two houses that keep to the least; answers which are taken then. */
        private int takeFirst(World world, int taken, int p) {
            int houses = world.isle.houses;
            for (int g = 0; g < houses; g++) {
                for (int h = 0; h < houses; h++) {
                    int then = taken | 1 << g | 1 << h;
                    if (canHave(world.isle, p, taken, g, h)
                            && cost(world, p, g, h) + best[then] == best[taken]) {
                        homeOf[2 * p] = g;
                        homeOf[2 * p + 1] = h;
                        return then;
                    }
                }
            }
            return taken;
        }
    }

    /** Rows of numbers, each of a sort. */
    private static final class Trays {
        static final int TRAYS = 4;
        static final int LONGEST = 30;

        private final long[][] rows = new long[TRAYS][LONGEST];
        private final int[] sorts = new int[TRAYS];
        final int[] many = new int[TRAYS];

        Trays() {
            Arrays.fill(many, NONE);
        }

        void lay(int t, int sort, int howMany) {
            sorts[t] = sort;
            many[t] = howMany;
            Arrays.fill(rows[t], 0);
        }

        long at(int t, int i) {
            return rows[t][i];
        }

        long put(int t, int i, long v) {
            rows[t][i] = cut(sorts[t], v);
            return rows[t][i];
        }

        private static long cut(int sort, long v) {
            switch (sort) {
                case 0: return (byte) v;
                case 1: return (short) v;
                case 2: return (int) v;
                default: return v;
            }
        }
    }
}
