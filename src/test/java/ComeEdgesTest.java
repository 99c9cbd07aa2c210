/** Promises 18 to 23 at their edges: what hours to come bring, from none to forty. */
public final class ComeEdgesTest {
    private static final Check T = new Check();
    /** A row of five places, 0 to 4, with rocks below it. */
    private static final String ROW = "island 5 2; rock 0 1; rock 1 1; rock 2 1; rock 3 1; rock 4 1;";

    public static void main(String[] args) {
        partsIn();
        partsInExactly();
        lasts();
        lastsExactly();
        reach();
        reachSquares();
        together();
        meal();
        mealLast();
        farthest();
        farthestExactly();
        onlyThisPair();
        nothingChanges();
        Check.end();
    }

    /** 18: 0 for those that are PARTED, 1 for the next HOUR, NONE where the rope holds for good. */
    private static void partsIn() {
        T.on("18 partsIn", ROW + "pair 3 at 0 0 and 3 0; pair 2 at 0 0 and 3 0; pair 20 at 0 0 and 4 0;");
        T.edges(Check.NO_SUCH, "partsIn", 0, 0, 2, "-1 1 1 -1", 0);
        T.due(2, "hours", 1).edges(Check.NO_SUCH, "partsIn", 0, 0, 2, "-1 0 0 -1", 0);
        // They aren't PARTED as long as no HOUR has gone by, however far APART.
        T.on("18 partsIn, long enough again", ROW + "pair 3 at 0 0 and 4 0; hour 5; length: hour - 2;");
        T.due(3, "pair", 0, 5).due(0, "pair", 0, 6).due(19, "partsIn", 0).due(0, "hours", 18).due(1, "partsIn", 0);
        T.due(1, "hours", 1).due(24, "count", 6).due(0, "partsIn", 0);
    }

    private static void partsInExactly() {
        // As many HOURS as the rope's law can put off: rain's ninety-nine and, at most, a day but one HOUR.
        for (int n : new int[] {1, 2, 3, 97, 98, 99}) {
            T.on("18 partsIn after rain for " + n, ROW + "pair 3 at 0 0 and 4 0; rain 4 for " + n + "; length: rain;");
            T.due(n, "partsIn", 0).due(0, "rain", 5, n).due(n, "partsIn", 0).due(1, "rain", 3, n).due(1, "partsIn", 0);
        }
        for (int h = 0; h < 24; h++) {
            // The rope is three or four long at that hour of the day, longer at all others.
            String law = " + 9 * (hour - " + h + ") * (hour - " + h + ");";
            T.on("18 partsIn by the hour " + h, ROW + "pair 3 at 0 0 and 4 0; length: 4" + law).due(-1, "partsIn", 0);
            T.on("18 partsIn by the hour " + h, ROW + "pair 3 at 0 0 and 4 0; length: 3" + law).due(h == 0 ? 24 : h, "partsIn", 0);
        }
        // 99 HOURS go by, the next one of the day's first is 120.
        T.on("18 partsIn, the longest", ROW + "pair 3 at 0 0 and 4 0; rain 9 for 99; length: 9 * hour + 9 * rain;");
        T.due(120, "partsIn", 0);
        T.on("18 partsIn, the longest from later on", ROW + "pair 3 at 0 0 and 4 0; hour 22; rain 9 for 99; length: 9 * hour + 9 * rain;");
        // The HOUR 120 is rained on (22 to 120), 144 is 122 on from 22.
        T.due(122, "partsIn", 0).due(0, "hours", 99).due(23, "partsIn", 0).due(0, "hours", 22).due(1, "partsIn", 0).due(1, "hours", 1);
    }

    private static void lasts() {
        T.on("19 lasts", ROW + "pair 3 at 0 0 and 3 0; pair 1 at 0 0 and 4 0; pair 1 at 0 0 and 3 0;");
        T.edges(Check.NO_SUCH, "lasts", 0, 0, 2, "40 0 0 40", 0);
        T.due(6, "hours", 1).due(40, "lasts", 1);
    }

    /** 19: from 0 to 40; more are told as 40. */
    private static void lastsExactly() {
        for (int n : new int[] {0, 1, 2, 38, 39, 40, 41, 42, 98}) {
            T.on("19 lasts for " + n, ROW + "pair 3 at 0 0 and 4 0; rain 4 for " + (n + 1) + "; length: rain; may: 1 = 2;");
            T.due(Math.min(40, n), "lasts", 0);
        }
        // In each HOUR it must hold, not only in the last; nobody need go.
        T.on("19 lasts, a gap", ROW + "pair 3 at 0 0 and 4 0; length: 4 - hour * (hour - 1) * (hour - 2); may: 1 = 2;");
        T.due(2, "lasts", 0);
        T.on("19 lasts by going nearer", ROW + "pair 3 at 0 0 and 4 0; length: 4 - hour; may: who = 0;");
        T.due(40, "lasts", 0);
        T.on("19 lasts by going nearer", ROW + "pair 3 at 0 0 and 4 0; length: 3 - hour; may: who = 0;").due(0, "lasts", 0);
    }

    /** 20: n 0 to 40, who 0 and 1. */
    private static void reach() {
        T.on("20 reach", ROW + "pair 20 at 0 0 and 4 0; pair 20 at 2 0 and 2 0; rain 1 for 39; may: rain = 0;");
        // From the fortieth HOUR on the first may go one place.
        T.edges(Check.ARGUMENT, "reach", 2, 0, 40, "1 1 3 7", 0, 0, 0).due(1, "reach", 0, 0, 38);
        T.on("20 reach", ROW + "pair 20 at 0 0 and 4 0; pair 20 at 2 0 and 2 0; rain 1 for 40; may: rain = 0;");
        T.edges(Check.ARGUMENT, "reach", 2, 0, 40, "1 1 1 3", 0, 0, 0).edges(Check.ARGUMENT, "reach", 2, 0, 40, "16 16 16 24", 0, 1, 0);
        T.edges(Check.ARGUMENT, "reach", 1, 0, 1, "3 24 3 24", 0, 0, 40).edges(Check.NO_SUCH, "reach", 0, 0, 1, "3 14 3 14", 0, 0, 40);
        T.refused(Check.NO_SUCH, "reach", 2, 2, 41).refused(Check.NO_SUCH, "reach", -1, -1, -1).refused(Check.ARGUMENT, "reach", 0, 2, 41);
        T.on("20 reach, no way on", ROW + "pair 1 at 0 0 and 4 0; pair 1 at 0 0 and 1 0; rain 1 for 3; length: rain; may: pair = 0;");
        T.edges(Check.ARGUMENT, "reach", 2, 0, 40, "1 0 0 0", 0, 0, 0).edges(Check.ARGUMENT, "reach", 2, 0, 40, "2 2 0 0", 1, 1, 0);
        T.due(2, "reach", 1, 1, 2).due(0, "reach", 1, 1, 3).due(1, "reach", 1, 0, 2).due(0, "reach", 1, 0, 3);
    }

    /** 20: by one place each way an HOUR, from each place of islands of all sizes. */
    private static void reachSquares() {
        for (int wide = 2; wide <= 5; wide++) {
            for (int high = 2; high <= 5; high++) {
                for (int k = 0; k < wide * high; k++) {
                    int last = wide * high - 1 - k;
                    T.on("20 reach from " + k + " on " + wide + " by " + high, "island " + wide + " " + high + "; pair 20 at "
                            + k % wide + " " + k / wide + " and " + last % wide + " " + last / wide + ";");
                    for (int n : new int[] {0, 1, 2, 3, 8, 40}) {
                        T.due(around(wide, high, k, n), "reach", 0, 0, n).due(around(wide, high, last, n), "reach", 0, 1, n);
                    }
                }
            }
        }
    }

    private static int around(int wide, int high, int k, int n) {
        int bits = 0;
        for (int i = 0; i < wide * high; i++) {
            bits |= Math.abs(i % wide - k % wide) + Math.abs(i / wide - k / wide) <= n ? 1 << i : 0;
        }
        return bits;
    }

    private static void together() {
        T.on("21 together", ROW + "pair 20 at 1 0 and 3 0; pair 20 at 2 0 and 2 0; rain 1 for 39; may: rain = 0;");
        T.edges(Check.ARGUMENT, "together", 1, 0, 40, "0 0 4 14", 0, 0).edges(Check.ARGUMENT, "together", 1, 0, 40, "4 4 14 31", 1, 0);
        T.edges(Check.NO_SUCH, "together", 0, 0, 1, "4 14 4 14", 0, 39);
        T.refused(Check.NO_SUCH, "together", 2, 41).refused(Check.NO_SUCH, "together", -1, -1);
        // However short the rope is, they can be at one place; there is no way on to it from farther off.
        T.on("21 together, no rope", ROW + "pair 1 at 1 0 and 3 0; pair 1 at 0 0 and 3 0; pair 1 at 2 0 and 2 0; length: 0;");
        T.due(4, "together", 0, 1).due(14, "together", 0, 2).due(0, "together", 1, 1).due(0, "together", 1, 2).due(14, "together", 2, 1);
    }

    /** 22: what 0, 1. */
    private static void meal() {
        T.on("22 meal", ROW + "pair 20 at 1 0 and 3 0; pair 20 at 2 0 and 2 0; pair 1 at 0 0 and 4 0; pair 1 at 3 0 and 4 0;");
        T.edges(Check.ARGUMENT, "meal", 1, 0, 1, "1 2 1 2", 0, 0).edges(Check.ARGUMENT, "meal", 1, 0, 1, "0 2 0 2", 1, 0);
        T.edges(Check.ARGUMENT, "meal", 1, 0, 1, "-1 -1 -1 -1", 2, 0).edges(Check.ARGUMENT, "meal", 1, 0, 1, "1 3 1 3", 3, 0);
        T.edges(Check.NO_SUCH, "meal", 0, 0, 3, "1 0 -1 1", 0, 0);
        T.refused(Check.NO_SUCH, "meal", 4, 2).refused(Check.NO_SUCH, "meal", -1, -1);
        T.on("22 meal at the place 0", "island 2 2; pair 1 at 0 0 and 0 0;").due(0, "meal", 0, 0).due(0, "meal", 0, 1);
        T.on("22 meal at the last place", "island 5 5; pair 1 at 4 4 and 4 4;").due(0, "meal", 0, 0).due(24, "meal", 0, 1);
    }

    /** 22: in 40 HOURS at most. */
    private static void mealLast() {
        for (int n : new int[] {38, 39, 40, 41}) {
            T.on("22 meal in " + n, ROW + "pair 20 at 1 0 and 3 0; rain 1 for " + n + "; may: rain = 0;");
            T.due(n <= 40 ? n : -1, "meal", 0, 0).due(n <= 40 ? 2 : -1, "meal", 0, 1);
        }
    }

    private static void farthest() {
        T.on("23 farthest", ROW + "pair 20 at 2 0 and 2 0; pair 3 at 2 0 and 2 0; rain 1 for 39; may: rain = 0;");
        T.edges(Check.ARGUMENT, "farthest", 1, 0, 40, "0 0 2 4", 0, 0).edges(Check.ARGUMENT, "farthest", 1, 0, 40, "0 0 2 3", 1, 0);
        T.edges(Check.NO_SUCH, "farthest", 0, 0, 1, "4 3 4 3", 0, 40);
        T.refused(Check.NO_SUCH, "farthest", 2, 41).refused(Check.NO_SUCH, "farthest", -1, -1);
        T.on("23 farthest, no way on", ROW + "pair 1 at 0 0 and 4 0; rain 4 for 40; length: rain; may: 1 = 2;");
        T.edges(Check.ARGUMENT, "farthest", 1, 0, 40, "4 4 4 -1", 0, 0);
    }

    private static void farthestExactly() {
        for (int length = 0; length <= 9; length++) {
            T.on("23 farthest by a rope of " + length, "island 5 5; pair 1 at 2 2 and 2 2; pair 1 at 0 0 and 4 4; length: " + length + ";");
            T.due(0, "farthest", 0, 0).due(8, "farthest", 1, 0).due(Math.min(length, 8), "farthest", 0, 40);
            T.due(Math.min(length, 2), "farthest", 0, 1).due(length < 6 ? -1 : Math.min(length, 8), "farthest", 1, 1);
        }
    }

    /** 3: this PAIR alone goes; others' ropes, and where they are, count for nothing. */
    private static void onlyThisPair() {
        T.on("3 this pair alone goes", ROW + "pair 2 at 0 0 and 1 0; pair 1 at 2 0 and 4 0; pair 1 at 1 0 and 1 0; pair 1 at 3 0 and 0 0;");
        T.due(31, "reach", 0, 0, 4).due(40, "lasts", 0).due(-1, "partsIn", 0).due(1, "partsIn", 1).due(1, "meal", 0, 0);
        T.due(10, "hours", 1).due(31, "reach", 0, 0, 4).due(40, "lasts", 0).due(2, "farthest", 0, 4).due(4, "farthest", 1, 4);
    }

    /** What is asked of hours to come changes nothing. */
    private static void nothingChanges() {
        T.on("3 asked, nothing changes", ROW + "pair 2 at 0 0 and 1 0; pair 1 at 2 0 and 4 0;").due(1, "tie", 0, 1);
        T.row(0, 1, 1, 104).row(1, 1, 1, -1).row(2, 1, 2, 2).due("null", "image", 1);
        long[][] args = {{0}, {1}, {0, 1, 9}, {0, 9}, {0, 0}, {0, 9}, {0, 4, 3}, {0, 4, 3, 2}, {0, 2, 2, 5}, {0, 1, 4}, {0, 0, 4}, {0, 4, 3},
            {0, 4, 3}, {0, 4, 5}, {0, 0}, {0, 0}, {}, {0}, {}, {0, 1}, {0, 1}, {0, 1}};
        String[] calls = {"partsIn", "lasts", "reach", "together", "meal", "farthest", "soonest", "leads", "ways", "alone", "costs",
            "leastRope", "needed", "clear", "errands", "dropped", "housed", "shortest", "dear", "other", "fits", "look"};
        for (int i = 0; i < calls.length; i++) {
            T.refused(T.face.twin().call(calls[i], args[i]), calls[i], args[i]);
        }
    }
}
