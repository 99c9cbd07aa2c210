/** Promises 24 to 33 at their edges: ways of both in forty hours at most, ropes, rocks, errands. */
public final class WayEdgesTest {
    private static final Check T = new Check();
    /** A row of five places, 0 to 4, with rocks below it. */
    private static final String ROW = "island 5 2; rock 0 1; rock 1 1; rock 2 1; rock 3 1; rock 4 1;";
    /** They may go from that HOUR on. */
    private static final String LATE = "; may: rain = 0; rain 1 for ";

    public static void main(String[] args) {
        soonest();
        soonestInForty();
        soonestTied();
        leads();
        leadsOrder();
        leadsIsAWay();
        ways();
        waysFull();
        alone();
        aloneInForty();
        costs();
        costsInForty();
        leastRope();
        needed();
        neededNot();
        clear();
        clearInForty();
        errands();
        errandNumbers();
        errandsInForty();
        errandsByRope();
        dropped();
        Check.end();
    }

    /** The two PLACES of a call at their bounds. */
    private static void spots(String call, int p, String ofFirst, String ofSecond, int j, int k, long... more) {
        long[] args = new long[3 + more.length];
        args[0] = p;
        args[1] = j;
        args[2] = k;
        System.arraycopy(more, 0, args, 3, more.length);
        T.edges(Check.NO_SUCH, call, 1, 0, 9, ofFirst, args).edges(Check.NO_SUCH, call, 2, 0, 9, ofSecond, args);
    }

    /** 24: PLACES 0 to the last; a rock is a PLACE that nobody comes to. */
    private static void soonest() {
        T.on("24 soonest", ROW + "pair 20 at 0 0 and 4 0; pair 20 at 1 0 and 1 0;");
        spots("soonest", 0, "2 2 -1 -1", "4 3 -1 -1", 2, 2);
        spots("soonest", 0, "0 1 -1 -1", "4 3 -1 -1", 0, 4);
        T.edges(Check.NO_SUCH, "soonest", 0, 0, 1, "0 3 0 3", 0, 0, 4);
        T.refused(Check.NO_SUCH, "soonest", 2, 10, -1).refused(Check.NO_SUCH, "soonest", -1, 0, 0);
        T.on("24 soonest on the largest island", "island 5 5; pair 20 at 0 0 and 4 4;");
        T.edges(Check.NO_SUCH, "soonest", 1, 0, 24, "8 8 8 8", 0, 0, 0).edges(Check.NO_SUCH, "soonest", 2, 0, 24, "8 7 1 0", 0, 0, 0);
        T.due(8, "soonest", 0, 24, 0).due(0, "soonest", 0, 0, 24);
    }

    /** The fewest HOURS, 40 at most. */
    private static void soonestInForty() {
        for (int n = 36; n <= 41; n++) {
            T.on("24 soonest, going from the hour " + n + " on", ROW + "pair 20 at 0 0 and 0 0" + LATE + n + ";");
            for (int far = 0; far <= 4; far++) {
                int hours = far == 0 ? 0 : n + far - 1;
                T.due(hours <= 40 ? hours : -1, "soonest", 0, far, 0).due(hours <= 40 ? hours : -1, "soonest", 0, 0, far);
                T.due(hours <= 40 ? hours : -1, "soonest", 0, far, far).due(hours <= 40 && far > 0 ? 0 : -1, "leads", 0, far, far, 1);
            }
        }
    }

    private static void soonestTied() {
        // By a rope of so many they can be that far apart and no more; PARTED ones as they like.
        for (int rope = 1; rope <= 5; rope++) {
            T.on("24 soonest by a rope of " + rope, ROW + "pair " + rope + " at 0 0 and 0 0; may: who = 0;");
            for (int far = 0; far <= 4; far++) {
                T.due(far <= rope ? far : -1, "soonest", 0, far, 0);
            }
        }
        T.on("24 soonest of parted ones", ROW + "pair 1 at 0 0 and 2 0; may: who = 0;").due(-1, "soonest", 0, 4, 2);
        T.due(0, "soonest", 0, 0, 2).due(1, "soonest", 0, 1, 2).due(1, "hours", 1).due(4, "soonest", 0, 4, 2);
    }

    /** 25: i from 1 on; NONE: not so many, there is none. */
    private static void leads() {
        T.on("25 leads", ROW + "pair 20 at 0 0 and 4 0; pair 20 at 1 0 and 1 0;");
        // The first waits as long as it can, while the second has farther to go.
        spots("leads", 0, "4 4 -1 -1", "4 4 -1 -1", 2, 2, 1);
        T.due(24, "leads", 0, 2, 2, 1).due(24, "leads", 0, 2, 2, 2).due(-1, "leads", 0, 2, 2, 3);
        T.edges(Check.NO_SUCH, "leads", 0, 0, 1, "24 22 24 22", 0, 2, 2, 1);
        for (int i : new int[] {0, -1, -41, Integer.MIN_VALUE}) {
            T.refused(Check.ARGUMENT, "leads", 0, 2, 2, i).refused(Check.ARGUMENT, "leads", 0, 9, 9, i);
            T.refused(Check.NO_SUCH, "leads", 0, 10, 2, i).refused(Check.NO_SUCH, "leads", 2, 2, 2, i);
        }
        for (int i : new int[] {1, 2, 40, 41, 42, 1000, Integer.MAX_VALUE}) {
            T.due(-1, "leads", 0, 0, 4, i).due(-1, "leads", 0, 9, 4, i).due(i <= 2 ? 24 : -1, "leads", 0, 2, 2, i);
        }
        T.on("25 leads for forty hours", ROW + "pair 20 at 0 0 and 0 0" + LATE + "39;");
        T.due(40, "soonest", 0, 2, 1).due(0, "leads", 0, 2, 1, 1).due(0, "leads", 0, 2, 1, 38).due(20, "leads", 0, 2, 1, 39);
        T.due(22, "leads", 0, 2, 1, 40).due(-1, "leads", 0, 2, 1, 41).due(-1, "leads", 0, 3, 1, 1).due(-1, "leads", 0, 3, 1, 40);
    }

    /** 25: of like ones the first by TURNS: staying, north, east, south, west; the first's weigh more. */
    private static void leadsOrder() {
        String isle = "island 5 5; pair 20 at 2 2 and 2 2;";
        T.on("25 leads, of like ones", isle);
        // One goes far, the other near: that one stays as long as it can.
        T.due(10, "leads", 0, 2, 7, 1).due(11, "leads", 0, 2, 7, 2).due(1, "leads", 0, 7, 2, 1).due(11, "leads", 0, 7, 2, 2);
        T.due(1, "leads", 0, 12, 2, 1).due(1, "leads", 0, 12, 2, 2).due(20, "leads", 0, 14, 12, 1).due(20, "leads", 0, 14, 12, 2);
        // Two turns to a corner place: north ahead of east and west, east and west ahead and behind south.
        T.due(12, "leads", 0, 8, 14, 1).due(22, "leads", 0, 8, 14, 2).due(10, "leads", 0, 6, 12, 1).due(40, "leads", 0, 6, 12, 2);
        T.due(20, "leads", 0, 18, 12, 1).due(30, "leads", 0, 18, 12, 2).due(30, "leads", 0, 16, 12, 1).due(40, "leads", 0, 16, 12, 2);
        T.due(44, "leads", 0, 10, 10, 1).due(33, "leads", 0, 22, 22, 1).due(1, "leads", 0, 12, 6, 1).due(4, "leads", 0, 12, 6, 2);
        T.due(2, "leads", 0, 12, 18, 1).due(3, "leads", 0, 12, 18, 2).due(3, "leads", 0, 12, 16, 1).due(4, "leads", 0, 12, 16, 2);
        // A step that ends nowhere in time is none, though its turns are lesser ones.
        T.on("25 leads round a rock", "island 3 3; rock 1 0; pair 20 at 0 0 and 0 0;").due(33, "leads", 0, 2, 2, 1).due(4, "soonest", 0, 2, 2);
        T.due(22, "leads", 0, 2, 2, 2).due(22, "leads", 0, 2, 2, 3).due(11, "leads", 0, 2, 2, 4).due(-1, "leads", 0, 2, 2, 5);
    }

    private static void leadsIsAWay() {
        // The turns, taken one by one, end where they should, on islands with ropes and laws.
        String[] isles = {"island 4 4; rock 1 1; rock 2 2; pair 3 at 0 0 and 1 0;", "island 5 3; rock 2 1; pair 2 at 0 0 and 0 1; may: x + y < 6;",
            "island 3 3; pair 1 at 0 0 and 1 0; length: 1 + hour * 0;", "island 4 3; pair 20 at 3 2 and 0 0; length: 7 - hour;"};
        for (String isle : isles) {
            T.on("25 leads is a way: " + isle, isle);
            int places = Integer.parseInt(T.face.call("count", 1)) * Integer.parseInt(T.face.call("count", 2));
            for (int j = 0; j < places; j += 2) {
                for (int k = 0; k < places; k += 3) {
                    Face here = T.face;
                    int hours = Integer.parseInt(here.twin().call("soonest", 0, j, k));
                    T.face = here.twin();
                    for (int i = 1; i <= hours; i++) {
                        int turns = Integer.parseInt(here.twin().call("leads", 0, j, k, i));
                        if (T.face.call("step", 0, turns / 10, turns % 10).startsWith("-")) {
                            T.report("the turns " + turns + " of the way to " + j + " and " + k + " can't be");
                        }
                    }
                    if (hours >= 0) {
                        T.due(j, "pair", 0, 2).due(k, "pair", 0, 3).due(hours, "count", 6);
                    }
                    T.face = here;
                }
            }
        }
    }

    /** 26: n from 0 to 8. */
    private static void ways() {
        T.on("26 ways", "island 2 2; rock 0 1; rock 1 1; pair 20 at 0 0 and 0 0; pair 20 at 0 0 and 1 0;");
        // Each goes or stays as it likes: 2 by 2 ways an HOUR, a quarter of all to each two places.
        T.edges(Check.ARGUMENT, "ways", 3, 0, 8, "1 1 4096 16384", 0, 0, 0, 0);
        T.edges(Check.ARGUMENT, "ways", 3, 0, 8, "0 1 4096 16384", 0, 1, 0, 0).edges(Check.ARGUMENT, "ways", 3, 0, 8, "0 0 0 0", 0, 2, 0, 0);
        T.edges(Check.NO_SUCH, "ways", 1, 0, 3, "4 4 0 0", 0, 0, 0, 2).edges(Check.NO_SUCH, "ways", 2, 0, 3, "4 4 0 0", 0, 0, 0, 2);
        T.edges(Check.NO_SUCH, "ways", 0, 0, 1, "1 0 1 0", 0, 0, 0, 0);
        T.refused(Check.NO_SUCH, "ways", 0, 4, 0, 9).refused(Check.NO_SUCH, "ways", 2, 0, 0, -1);
        T.on("26 ways by a rope", ROW + "pair 1 at 0 0 and 0 0; may: who = 0; length: 1;").due(2, "ways", 0, 0, 0, 2).due(128, "ways", 0, 0, 0, 8);
        T.on("26 ways, no way on", ROW + "pair 1 at 0 0 and 4 0;").due(1, "ways", 0, 0, 4, 0).due(0, "ways", 0, 0, 4, 1);
        T.due(1, "hours", 1).due(1, "ways", 0, 0, 4, 1).due(4, "ways", 0, 0, 4, 2);
    }

    /** 26: as many as can be. */
    private static void waysFull() {
        T.on("26 ways, the most", "island 5 5; pair 20 at 2 2 and 2 2; pair 1 at 0 0 and 0 0; pair 20 at 0 0 and 4 4;");
        long[] closed = closed(12, 12);
        for (int n = 0; n <= 8; n++) {
            T.due(closed[n] * closed[n], "ways", 0, 12, 12, n);
        }
        long[] corner = closed(0, 0);
        for (int n = 0; n <= 8; n++) {
            T.due(corner[n] * corner[n], "ways", 2, 0, 24, n);
        }
    }

    /** In how many ways one alone is at a place of five by five after 0 to 8 HOURS. */
    private static long[] closed(int from, int to) {
        long[] all = new long[9];
        long[] now = new long[25];
        now[from] = 1;
        for (int n = 0; n <= 8; n++) {
            all[n] = now[to];
            long[] next = new long[25];
            for (int k = 0; k < 25; k++) {
                for (int i = 0; i < 25; i++) {
                    boolean beside = Math.abs(i % 5 - k % 5) + Math.abs(i / 5 - k / 5) <= 1;
                    next[i] += beside ? now[k] : 0;
                }
            }
            now = next;
        }
        return all;
    }

    /** 27: who 0, 1; PLACES. */
    private static void alone() {
        T.on("27 alone", ROW + "pair 2 at 1 0 and 2 0; pair 20 at 4 0 and 0 0;");
        T.edges(Check.ARGUMENT, "alone", 1, 0, 1, "2 1 2 1", 0, 0, 3).edges(Check.NO_SUCH, "alone", 2, 0, 9, "1 0 -1 -1", 0, 0, 0);
        T.edges(Check.NO_SUCH, "alone", 0, 0, 1, "0 3 0 3", 0, 0, 1).edges(Check.NO_SUCH, "alone", 2, 0, 9, "2 1 -1 -1", 0, 1, 0);
        T.refused(Check.NO_SUCH, "alone", 0, 2, 10).refused(Check.NO_SUCH, "alone", 2, 2, 0).refused(Check.ARGUMENT, "alone", 0, 2, 9);
        T.refused(Check.ARGUMENT, "alone", 0, -1, 5);
    }

    /** 27: 40 HOURS at most; wherever the other is, but it must follow. */
    private static void aloneInForty() {
        for (int n = 36; n <= 41; n++) {
            T.on("27 alone, going from the hour " + n + " on", ROW + "pair 1 at 0 0 and 0 0" + LATE + n + ";");
            for (int far = 0; far <= 4; far++) {
                int hours = far == 0 ? 0 : n + far - 1;
                T.due(hours <= 40 ? hours : -1, "alone", 0, 0, far).due(hours <= 40 ? hours : -1, "alone", 0, 1, far);
            }
        }
        T.on("27 alone, held", ROW + "pair 2 at 0 0 and 0 0; may: who = 1;").due(2, "alone", 0, 1, 2).due(-1, "alone", 0, 1, 3).due(-1, "alone", 0, 0, 1);
    }

    private static void costs() {
        T.on("28 costs", ROW + "pair 1 at 0 0 and 2 0; pair 20 at 0 0 and 2 0; length: rope + 2 - rain; rain 2 for 5; may: who = 0 or rain = 0;");
        // The rope of pair 0 is 1 long while it rains: the second waits, the first at most one from it.
        T.edges(Check.ARGUMENT, "costs", 1, 0, 1, "0 0 0 0", 0, 0, 2).edges(Check.NO_SUCH, "costs", 2, 0, 9, "0 0 -1 -1", 0, 0, 0);
        // It comes to 4 as the rain is over, in the fifth HOUR.
        T.edges(Check.NO_SUCH, "costs", 0, 0, 1, "1 0 1 0", 0, 0, 4).due(-1, "costs", 0, 0, 5).due(0, "costs", 0, 0, 3);
        T.due(0, "costs", 1, 0, 4).due(0, "costs", 0, 1, 4).refused(Check.NO_SUCH, "costs", 0, 2, 10).refused(Check.NO_SUCH, "costs", 2, 2, 0);
        T.refused(Check.ARGUMENT, "costs", 0, 2, 9).refused(Check.ARGUMENT, "costs", 0, -1, 9);
    }

    /** 28: NONE: not so in 40 HOURS, tied or PARTED. */
    private static void costsInForty() {
        for (int n = 36; n <= 41; n++) {
            // Tied, the first may go from the hour n on, as the rope is long enough again.
            T.on("28 costs, tied until " + n, ROW + "pair 1 at 0 0 and 0 0; length: 2 - 2 * rain; rain 1 for " + n + "; may: who = 0;");
            T.due(n <= 40 ? n - 1 : -1, "costs", 0, 0, 1).due(n + 1 <= 40 ? n - 1 : -1, "costs", 0, 0, 2);
            T.due(-1, "costs", 0, 0, 3).due(0, "costs", 0, 0, 0).due(0, "costs", 0, 1, 0).due(-1, "costs", 0, 1, 1);
            T.on("28 costs, never before " + n, ROW + "pair 1 at 0 0 and 0 0" + LATE + n + ";");
            T.due(n <= 40 ? 0 : -1, "costs", 0, 0, 1);
        }
        T.on("28 costs of the parted", ROW + "pair 1 at 0 0 and 4 0;").due(-1, "costs", 0, 0, 1).due(1, "hours", 1).due(0, "costs", 0, 0, 4);
        T.due(-1, "costs", 0, 0, 5).due(0, "costs", 0, 1, 4);
        T.on("28 costs, no way on", ROW + "pair 1 at 0 0 and 4 0;").due(0, "costs", 0, 0, 0).due(0, "costs", 0, 1, 4).due(-1, "costs", 0, 1, 3);
    }

    /** 29: ROPE 1 to 20, in place of its own. */
    private static void leastRope() {
        T.on("29 leastRope", ROW + "pair 20 at 0 0 and 4 0; pair 1 at 0 0 and 0 0;");
        spots("leastRope", 0, "2 2 -1 -1", "2 2 -1 -1", 2, 2);
        T.edges(Check.NO_SUCH, "leastRope", 0, 0, 1, "1 4 1 4", 0, 0, 4).due(1, "pair", 1, 0).due(20, "pair", 0, 0);
        T.refused(Check.NO_SUCH, "leastRope", 2, 10, 0).refused(Check.NO_SUCH, "leastRope", -1, 0, 0);
        for (int least = 0; least <= 22; least++) {
            // By that ROPE, or a longer one, the law gives them length enough.
            T.on("29 leastRope of " + least, ROW + "pair 7 at 0 0 and 0 0; length: (rope + 1 - " + least + ") * 9; may: who = 0;");
            T.due(least > 20 ? -1 : Math.max(1, least), "leastRope", 0, 4, 0).due(1, "leastRope", 0, 0, 0).due(7, "pair", 0, 0);
        }
        for (int knots = 0; knots <= 9; knots++) {
            T.on("29 leastRope, with knots", ROW + "pair 1 at 0 0 and 0 0 knots " + knots + "; may: who = 0;");
            T.due(4 + knots, "leastRope", 0, 4, 0).due(1, "leastRope", 0, 0, 0).due(-1, "leastRope", 0, 4, 1);
        }
        // Not only the longest: one that is just so long.
        T.on("29 leastRope, just one", ROW + "pair 1 at 0 0 and 0 0; length: 4 - (rope - 20) * (rope - 20) * 9; may: who = 0;");
        T.due(20, "leastRope", 0, 4, 0);
        T.on("29 leastRope, just one", ROW + "pair 1 at 0 0 and 0 0; length: 4 - (rope - 1) * 9; may: who = 0;").due(1, "leastRope", 0, 4, 0);
    }

    /** 30: neither of the four; as bits. */
    private static void needed() {
        T.on("30 needed", ROW + "pair 20 at 0 0 and 4 0; pair 20 at 1 0 and 1 0;");
        spots("needed", 0, "8 8 0 0", "10 8 0 0", 2, 2);
        T.edges(Check.NO_SUCH, "needed", 0, 0, 1, "0 12 0 12", 0, 0, 4).due(2 + 8, "needed", 0, 2, 2).due(2 + 4 + 8, "needed", 0, 4, 0);
        T.refused(Check.NO_SUCH, "needed", 2, 10, 0).refused(Check.NO_SUCH, "needed", -1, 0, 0);
        // The last place of all, and the first.
        T.on("30 needed, the places 0 and 24", "island 5 5; rock 3 3; rock 1 1; rock 0 2; rock 2 0; rock 2 4; rock 4 2; "
                + "pair 20 at 1 0 and 3 4;");
        T.due(1 | 1 << 24, "needed", 0, 5, 19).due(1, "needed", 0, 5, 23).due(1 << 24, "needed", 0, 1, 19).due(0, "needed", 0, 1, 23);
        T.due(0, "needed", 0, 12, 23).due(0, "needed", 0, 19, 5);
    }

    private static void neededNot() {
        // There is no WAY, or none is needed; a rock that is one already is not told.
        T.on("30 needed, none", ROW + "pair 1 at 0 0 and 4 0; pair 1 at 1 0 and 1 0;");
        T.due(0, "needed", 0, 2, 2).due(0, "needed", 0, 0, 4).due(0, "needed", 1, 1, 1).due(0, "needed", 1, 0, 0).due(4, "needed", 1, 3, 3);
        // Farther apart than the rope is long they never are.
        T.due(0, "needed", 1, 3, 1).due(0, "needed", 1, 4, 9).due(12, "needed", 1, 4, 4);
        for (int n = 36; n <= 41; n++) {
            // The way round takes four steps, the one across two.
            T.on("30 needed in forty hours, from " + n, "island 3 2; pair 20 at 0 0 and 0 0" + LATE + n + ";");
            T.due(n + 1 > 40 || n + 3 <= 40 ? 0 : 2, "needed", 0, 2, 0);
        }
    }

    /** 31: the rock that makes the WAY soonest, if that is sooner than now, the first. */
    private static void clear() {
        T.on("31 clear", ROW + "pair 20 at 0 0 and 4 0; pair 20 at 1 0 and 1 0;");
        spots("clear", 0, "-1 -1 8 9", "-1 -1 8 9", 2, 2);
        T.edges(Check.NO_SUCH, "clear", 0, 0, 1, "-1 -1 -1 -1", 0, 0, 4).due(-1, "clear", 0, 5, 6).due(5, "clear", 0, 5, 0).due(5, "clear", 1, 5, 5);
        T.refused(Check.NO_SUCH, "clear", 2, 10, 0).refused(Check.NO_SUCH, "clear", -1, 0, 0).due(5, "count", 5);
        T.on("31 clear, of like ones the first", "island 3 3; rock 0 1; rock 1 1; rock 2 1; pair 20 at 1 0 and 1 0;");
        T.due(3, "clear", 0, 6, 6).due(4, "clear", 0, 7, 7).due(4, "clear", 0, 8, 8).due(3, "clear", 0, 6, 1).due(3, "clear", 0, 3, 1);
        // As soon as now is not sooner.
        T.on("31 clear, not sooner", "island 3 3; rock 1 1; pair 20 at 0 0 and 0 0;").due(-1, "clear", 0, 8, 8).due(-1, "clear", 0, 7, 0);
        T.due(4, "clear", 0, 4, 0).due(4, "clear", 0, 4, 3).due(-1, "clear", 0, 2, 3);
        T.on("31 clear, no rocks", "island 2 2; pair 1 at 0 0 and 1 1;").due(-1, "clear", 0, 1, 1).due(-1, "clear", 0, 0, 3);
    }

    private static void clearInForty() {
        for (int n = 36; n <= 41; n++) {
            // There is no other way to go.
            T.on("31 clear in forty hours, from " + n, "island 3 3; rock 1 0; rock 1 1; rock 0 2; pair 20 at 0 0 and 0 0" + LATE + n + ";");
            T.due(n + 1 <= 40 ? 1 : -1, "clear", 0, 2, 0).due(n + 2 <= 40 ? 1 : -1, "clear", 0, 5, 0).due(n + 1 <= 40 ? 4 : -1, "clear", 0, 4, 3);
        }
    }

    /** 32: 1 to 4 numbers. */
    private static void errands() {
        T.on("32 errands", ROW + "pair 20 at 1 0 and 2 0; pair 1 at 1 0 and 2 0;");
        for (String call : new String[] {"errands", "dropped"}) {
            T.row(0, 1).refused(Check.ARGUMENT, call, 0, 0);
            T.row(0, 1, 0).due(call.equals("errands") ? 1 : 0, call, 0, 0);
            T.row(0, 1, 0, 1).due(call.equals("errands") ? 1 : 0, call, 0, 0);
            T.row(0, 1, 0, 1, 102).due(call.equals("errands") ? 1 : 0, call, 0, 0);
            T.row(0, 1, 1, 102, 104, 0).due(2, call, 0, 0).due(call.equals("errands") ? 4 : 2, call, 1, 0);
            T.row(0, 1, 0, 0, 0, 0, 0).refused(Check.ARGUMENT, call, 0, 0);
            T.row(0, 1, new long[30]).refused(Check.ARGUMENT, call, 0, 0);
            T.row(0, 1, 0).edges(Check.NO_SUCH, call, 0, 0, 1, call.equals("errands") ? "1 1 1 1" : "0 0 0 0", 0, 0);
            // No such PAIR, no such TRAY, then MISSING, then what is in it.
            T.row(2, 1, 200).refused(Check.NO_SUCH, call, 2, 2).refused(Check.NO_SUCH, call, 2, 1).refused(Check.NO_SUCH, call, -1, 4);
            T.refused(Check.NO_SUCH, call, 0, 4).refused(Check.STATE, call, 0, 1).refused(Check.ARGUMENT, call, 0, 2).row(2, 1, 0);
            T.row(3, 1, 1, 0).edges(Check.NO_SUCH, call, 1, 0, 3, (call.equals("errands") ? "1 " + Check.STATE + " 1 1" : "0 " + Check.STATE + " 0 1"), 0, 0);
        }
    }

    /** 32: 100 times who, and a PLACE. */
    private static void errandNumbers() {
        for (String isle : new String[] {"island 2 2;", "island 5 5;", "island 3 2;"}) {
            int wide = isle.charAt(7) - '0';
            int places = wide * (isle.charAt(9) - '0');
            T.on("32, 33 the numbers of errands", isle + "pair 20 at 0 0 and 0 0;");
            long[] can = {0, 1, places - 2, places - 1, 100, 101, 100 + places - 2, 100 + places - 1};
            for (long v : can) {
                int k = (int) v % 100;
                T.row(0, 1, v).due(k % wide + k / wide, "errands", 0, 0).due(0, "dropped", 0, 0);
            }
            long[] never = {-2, -1, places, places + 1, 50, 98, 99, 100 + places, 101 + places, 199, 200, 201, 300, -100, -99, Integer.MIN_VALUE,
                Integer.MAX_VALUE, Long.MIN_VALUE, Long.MAX_VALUE, 1L << 32, (1L << 32) + 100, -(1L << 32)};
            for (long v : never) {
                for (int at = 0; at < 3; at++) {
                    long[] row = {0, 100, 0};
                    row[at] = v;
                    T.on("32, 33 no errand " + v, isle + "pair 20 at 0 0 and 0 0;").row(0, 3, row);
                    T.refused(Check.ARGUMENT, "errands", 0, 0).refused(Check.ARGUMENT, "dropped", 0, 0);
                }
            }
        }
    }

    /** 32: 40 HOURS at most; also now. */
    private static void errandsInForty() {
        for (int n = 36; n <= 41; n++) {
            T.on("32, 33 errands, going from the hour " + n + " on", ROW + "pair 20 at 0 0 and 0 0" + LATE + n + ";");
            for (int far = 0; far <= 4; far++) {
                int hours = far == 0 ? 0 : n + far - 1;
                int due = hours <= 40 ? hours : -1;
                T.row(0, 1, far).due(due, "errands", 0, 0).row(0, 1, 100 + far).due(due, "errands", 0, 0).due(0, "dropped", 0, 0);
                T.row(0, 1, 0, 100, far, 100 + far).due(due, "errands", 0, 0);
                T.row(0, 1, 0, 105, far).due(-1, "errands", 0, 0).due(hours <= 40 ? 1 : -1, "dropped", 0, 0);
            }
        }
    }

    /** 32: who does its errand first, and when, is as the rope of each HOUR lets them. */
    private static void errandsByRope() {
        // The first must wait at 2 for the second to come to 3, or the rope is too short in the first HOUR.
        T.on("32 errands by a rope of each hour", ROW + "pair 1 at 2 0 and 2 0; length: hour * hour;"
                + "may: who = 0 and hour < 3 or who = 1 and not hour = 2;");
        T.row(0, 1, 1, 104).due(3, "errands", 0, 0).due(1, "dropped", 0, 0).row(0, 1, 104, 1).due(3, "errands", 0, 0).due(0, "dropped", 0, 0);
        T.row(0, 1, 1).due(1, "errands", 0, 0).row(0, 1, 104).due(3, "errands", 0, 0);
        T.on("32 errands by a rope", ROW + "pair 1 at 2 0 and 2 0;").row(0, 1, 0, 104).due(2 + 3, "errands", 0, 0);
        T.row(0, 1, 104, 0, 4, 100).due(2 + 4, "errands", 0, 0).row(0, 1, 4, 102, 2).due(2, "errands", 0, 0);
    }

    private static void dropped() {
        T.on("33 dropped", ROW + "pair 20 at 2 0 and 2 0;");
        T.row(0, 1, 2, 102).due(0, "dropped", 0, 0).row(0, 1, 2, 103).due(1, "dropped", 0, 0).row(0, 1, 3, 102).due(0, "dropped", 0, 0);
        T.row(0, 1, 0, 4, 104, 100).due(0, "dropped", 0, 0).row(0, 1, 4, 0, 102, 103).due(0, "dropped", 0, 0);
        T.row(0, 1, 102, 103, 4, 0).due(2, "dropped", 0, 0).row(0, 1, 102, 103, 1, 4).due(3, "dropped", 0, 0);
        T.row(0, 1, 5, 6).due(-1, "dropped", 0, 0).row(0, 1, 5).due(0, "dropped", 0, 0).row(0, 1, 0, 1, 2, 109).due(3, "dropped", 0, 0);
        T.row(0, 1, 5, 5).due(-1, "dropped", 0, 0).row(0, 1, 5, 0, 5).due(-1, "dropped", 0, 0);
    }
}
