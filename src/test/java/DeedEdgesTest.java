/** Promises 10 to 17 at their edges: steps, knots, rain, hours, what is undone, told deeds, seasons. */
public final class DeedEdgesTest {
    private static final Check T = new Check();
    private static final String FOUR = "island 5 5; pair 9 at 2 2 and 2 2; pair 9 at 2 2 and 2 2; pair 9 at 2 2 and 2 2;"
            + "pair 9 at 2 2 and 2 2;";

    public static void main(String[] args) {
        stepTurns();
        stepBorders();
        stepRope();
        stepWhyOrder();
        stepOthers();
        partedExactly();
        tie();
        rain();
        hours();
        undoBounds();
        undoForgets();
        undoEach();
        judge();
        toldBounds();
        toldPairs();
        toldRain();
        perform();
        performForgets();
        seasonTimes();
        seasonsByDraws();
        seasonForgets();
        Check.end();
    }

    /** 10: PAIRS from 0 on, TURNS 0 to 4 of each; what can't be is no throw and changes nothing. */
    private static void stepTurns() {
        T.on("10 step, its arguments", FOUR);
        T.edges("-1", "step", 0, 0, 3, "0 0 0 0", 0, 0, 0).edges("-1", "step", 1, 0, 4, "0 1 1 1", 3, 0, 0);
        T.edges("-1", "step", 2, 0, 4, "1 2 2 0", 2, 4, 0);
        for (int i = 1; i <= 4; i++) {
            T.on("10 step, of so many pairs", "island 2 2;" + "pair 9 at 0 0 and 0 0;".repeat(i));
            T.refused("-1", "step", i, 0, 0).refused("-1", "step", 4, 0, 0).due(0, "step", i - 1, 0, 0);
        }
        int[] to = {12, 7, 13, 17, 11};
        for (int a = 0; a <= 4; a++) {
            for (int b = 0; b <= 4; b++) {
                T.on("10 step " + a + b, FOUR);
                int far = a == b ? 0 : a == 0 || b == 0 ? 1 : 2;
                T.due(far, "step", 1, a, b).due(to[a], "pair", 1, 2).due(to[b], "pair", 1, 3).due(far, "pair", 1, 4);
                T.due(1, "count", 6).due(1, "count", 9).due(12, "pair", 0, 2).due(12, "pair", 2, 3).due(0, "count", 8);
            }
        }
    }

    /** 10: off the island at each border, and beside it on its corners. */
    private static void stepBorders() {
        for (int wide = 2; wide <= 5; wide++) {
            for (int high = 2; high <= 5; high++) {
                for (int k = 0; k < wide * high; k++) {
                    int x = k % wide;
                    int y = k / wide;
                    int[] to = {k, y > 0 ? k - wide : -1, x < wide - 1 ? k + 1 : -1, y < high - 1 ? k + wide : -1,
                        x > 0 ? k - 1 : -1};
                    T.on("10 step at the borders", "island " + wide + " " + high + "; pair 9 at " + x + " " + y + " and " + x
                            + " " + y + ";");
                    Face here = T.face;
                    for (int t = 0; t <= 4; t++) {
                        int due = to[t] < 0 ? -2 : t == 0 ? 0 : 1;
                        int then = to[t] < 0 ? k : to[t];
                        T.face = here.twin();
                        T.due(due, "step", 0, t, 0).due(then, "pair", 0, 2).due(k, "pair", 0, 3);
                        T.face = here.twin();
                        T.due(due, "step", 0, 0, t).due(k, "pair", 0, 2).due(then, "pair", 0, 3);
                        T.due(due < 0 ? 0 : 1, "count", 6).due(due < 0 ? 0 : 1, "count", 9);
                    }
                }
            }
        }
    }

    /** 10: APART by LENGTH in the HOUR that they come to at most. */
    private static void stepRope() {
        for (int length = 0; length <= 9; length++) {
            T.on("10 step by a rope of " + length, "island 5 5; pair 20 at 1 0 and 4 4; length: " + length + ";");
            T.due(7, "pair", 0, 4);
            if (length < 8) {
                T.refused("-3", "step", 0, 4, 0);
            } else {
                T.due(8, "step", 0, 4, 0);
            }
            T.on("10 step nearer by a rope of " + length, "island 5 5; pair 20 at 1 0 and 4 4; length: " + length + ";");
            if (length < 5) {
                T.refused("-3", "step", 0, 3, 1);
            } else {
                T.due(5, "step", 0, 3, 1).due(0, "pair", 0, 6);
            }
        }
        // It is the coming hour's length, longer or shorter than this one's; rain's last hour is this one.
        T.on("10 step by the coming hour's rope", "island 5 2; pair 20 at 0 0 and 2 0; length: hour; hour 1;");
        T.due(1, "pair", 0, 5).due(2, "step", 0, 0, 0).due(3, "step", 0, 0, 2).due(0, "pair", 0, 6);
        T.on("10 step as rain ends", "island 5 2; pair 20 at 0 0 and 2 0; length: rain; rain 5 for 1;");
        T.due(5, "pair", 0, 5).refused("-3", "step", 0, 0, 0).refused("-3", "step", 0, 2, 0).due(1, "hours", 1);
        // Once parted it binds them no more.
        T.due(3, "step", 0, 0, 2).due(4, "step", 0, 0, 2).due(4, "pair", 0, 4).due(0, "pair", 0, 5);
        T.on("10 step of nobody else's rope", "island 3 2; pair 1 at 0 0 and 2 1; pair 5 at 0 0 and 2 1;");
        T.refused("-3", "step", 0, 0, 0).due(3, "step", 1, 0, 0).due(1, "count", 8).due(3, "step", 0, 0, 0);
    }

    /** 10: why it can't be, 1 ahead of 2 ahead of 3. */
    private static void stepWhyOrder() {
        T.on("10 step, the first why", "island 3 2; rock 1 1; pair 1 at 0 0 and 2 1;");
        T.refused("-3", "step", 0, 0, 0).refused("-2", "step", 0, 1, 0).refused("-2", "step", 0, 0, 4).refused("-2", "step", 0, 4, 2);
        T.refused("-1", "step", 0, 1, 5).refused("-1", "step", 0, 5, 2).refused("-1", "step", 1, 1, 0).refused("-1", "step", -1, 5, 5);
        T.refused("-3", "step", 0, 3, 0).refused("-3", "step", 0, 2, 0).due(1, "tie", 0, 0).refused("-3", "step", 0, 3, 0);
        // The law may is asked of those that go, of both.
        T.on("10 step, by law", "island 3 2; pair 3 at 0 0 and 0 0; may: who = 0;");
        T.refused("-2", "step", 0, 2, 2).refused("-2", "step", 0, 0, 2).due(1, "step", 0, 2, 0).refused("-2", "step", 0, 2, 3);
        T.on("10 step, by law", "island 3 2; pair 3 at 0 0 and 0 0; may: who = 1;");
        T.refused("-2", "step", 0, 2, 2).refused("-2", "step", 0, 2, 0).due(1, "step", 0, 0, 2).due(1, "step", 0, 0, 0);
    }

    /** 10: all other PAIRS stay; as the HOUR goes by each PAIR can be PARTED, this one can't. */
    private static void stepOthers() {
        T.on("10 step of one", "island 4 2; pair 3 at 0 0 and 1 0; pair 1 at 0 0 and 2 0; pair 2 at 0 0 and 2 0; pair 1 at 3 1 and 3 0;");
        T.due(0, "count", 8).due(2, "step", 0, 0, 2).due(1, "count", 8).due(1, "pair", 1, 6).due(0, "pair", 2, 6);
        T.due(0, "pair", 3, 6).due(0, "pair", 0, 6).due(0, "pair", 1, 2).due(2, "pair", 1, 3).due(2, "pair", 2, 3);
        T.due(7, "pair", 3, 2).due(3, "pair", 3, 3);
    }

    /** PARTED: by more than LENGTH, as an HOUR has gone by, for good. */
    private static void partedExactly() {
        for (int length = 0; length <= 9; length++) {
            T.on("2 parted by a rope of " + length, "island 5 5; pair 20 at 0 0 and 4 4; pair 20 at 3 3 and 3 3; length: " + length + ";");
            T.due(0, "pair", 0, 6).due(length < 8 ? 1 : 0, "hours", 1).due(length < 8 ? 1 : 0, "pair", 0, 6);
            T.due(0, "pair", 1, 6).due(length < 8 ? 1 : 0, "count", 8);
        }
        T.on("2 parted for good", "island 2 2; pair 3 at 0 0 and 1 1; rain 9 for 2; length: rope - rain;");
        T.due(0, "count", 8).due(1, "hours", 1).due(0, "hours", 9).due(3, "pair", 0, 5).due(1, "pair", 0, 6).due(1, "step", 0, 2, 0);
        T.due(0, "step", 0, 3, 0).due(1, "pair", 0, 6).due(1, "count", 8).due(3, "tie", 0, 0).due(1, "count", 8);
    }

    /** 11: 0 to 9. */
    private static void tie() {
        T.on("11 tie", "island 3 3; pair 9 at 0 0 and 0 1 knots 4; pair 20 at 0 0 and 2 2; pair 1 at 1 1 and 1 1;");
        T.edges(Check.ARGUMENT, "tie", 1, 0, 9, "9 8 1 0", 0, 0).edges(Check.ARGUMENT, "tie", 1, 0, 9, "20 19 12 11", 1, 0);
        T.edges(Check.ARGUMENT, "tie", 1, 0, 9, "1 0 0 0", 2, 0).edges(Check.NO_SUCH, "tie", 0, 0, 2, "7 18 18 0", 0, 2);
        T.refused(Check.NO_SUCH, "tie", 3, 10).refused(Check.NO_SUCH, "tie", -1, -1);
        // It is a deed even where nothing is another; no hour goes by.
        T.due(5, "tie", 0, 4).due(1, "count", 9).due(0, "count", 6).due(0, "tie", 2, 9).due(9, "pair", 2, 1).due(2, "count", 9);
        T.due(4, "pair", 0, 1).due(0, "pair", 1, 1);
        T.on("11 tie by the law", "island 2 2; pair 9 at 0 0 and 0 0; length: 100 - knots * 11;");
        T.edges(Check.ARGUMENT, "tie", 1, 0, 9, "99 89 12 1", 0, 0);
    }

    /** 12: 0 to 9 hard, 1 to 99 HOURS, from this one on; PAIRS whose LENGTH is less than they are APART now. */
    private static void rain() {
        String isle = "island 5 5; pair 9 at 0 0 and 4 0; pair 9 at 0 0 and 3 0; pair 9 at 0 0 and 1 0; pair 9 at 2 2 and 2 2; "
                + "length: 4 - rain;";
        T.on("12 rain", isle);
        T.edges(Check.ARGUMENT, "rain", 0, 0, 9, "0 1 7 7", 0, 3).edges(Check.ARGUMENT, "rain", 1, 1, 99, "3 3 3 3", 2, 0);
        T.refused(Check.ARGUMENT, "rain", 10, 100).refused(Check.ARGUMENT, "rain", -1, 0);
        int[] bits = {0, 1, 3, 3, 7, 7};
        for (int hard = 0; hard < bits.length; hard++) {
            T.due(bits[hard], "rain", hard, 1).due(hard, "count", 7).due(0, "count", 8).due(0, "count", 6);
        }
        // The PARTED aside.
        T.due(1, "rain", 1, 2).due(1, "hours", 1).due(6, "rain", 9, 1).due(0, "rain", 1, 1).due(10, "count", 9);
    }

    /** 13: 1 to 99; PAIRS that are PARTED in these. */
    private static void hours() {
        T.on("13 hours", "island 5 2; pair 20 at 0 0 and 4 0; pair 20 at 0 0 and 0 0; pair 20 at 0 0 and 1 0; rain 3 for 98;"
                + "length: 1 + rain - 3 * pair;");
        // Pair 2 is parted as the first hour goes by; pair 0 as the rain is over.
        T.row(0, 0).edges(Check.ARGUMENT, "hours", 0, 1, 99, "4 4 5 5", 0);
        T.due(4, "hours", 97).due(1, "hours", 1).due(0, "hours", 99).due(5, "judge", 0, 3).due(3, "count", 9);
    }

    /** 14: n from 1 to 10, and to as many as there are. */
    private static void undoBounds() {
        for (int deeds = 0; deeds <= 12; deeds++) {
            T.on("14 undo after " + deeds, "island 2 2; hour 7;");
            for (int i = 0; i < deeds; i++) {
                T.face.call("hours", 1);
            }
            int can = Math.min(deeds, 10);
            T.due(can, "count", 9);
            T.refused(Check.ARGUMENT, "undo", 0).refused(Check.ARGUMENT, "undo", -1).refused(Check.ARGUMENT, "undo", can + 1);
            T.refused(Check.ARGUMENT, "undo", 11).refused(Check.ARGUMENT, "undo", Integer.MAX_VALUE);
            T.refused(Check.ARGUMENT, "undo", Integer.MIN_VALUE);
            Face full = T.face;
            for (int n = 1; n <= can; n++) {
                T.face = full.twin();
                T.due(can - n, "undo", n).due(7 + deeds - n, "count", 6).due(can - n, "count", 9);
                T.refused(Check.ARGUMENT, "undo", can - n + 1);
            }
        }
    }

    /** 14: 10 at most, the eldest are forgotten. */
    private static void undoForgets() {
        for (int more = 0; more <= 25; more++) {
            T.on("14 undo, the eldest forgotten", "island 2 2;");
            for (int i = 0; i < 10 + more; i++) {
                T.face.call("hours", 1);
            }
            T.due(10, "count", 9).due(7, "undo", 3).due(7 + more, "count", 6).due(0, "hours", 9).due(8, "count", 9);
            T.due(16 + more, "count", 6).due(0, "undo", 8).due(more, "count", 6).refused(Check.ARGUMENT, "undo", 1);
        }
    }

    /** 14: what each kind of deed changes is as it was; deeds of one call are one. */
    private static void undoEach() {
        String isle = "island 3 2; pair 2 at 0 0 and 1 0 knots 1; pair 1 at 0 0 and 2 1; rain 4 for 5; hour 9;";
        long[][] calls = {{0, 3, 3}, {0, 7}, {7, 9}, {9}, {0, 2}, {0}};
        String[] names = {"step", "tie", "rain", "hours", "season", "perform"};
        String[] answers = {"1", "0", "2", "2", "2", "3"};
        int[] deeds = {1, 1, 1, 1, 2, 3};
        for (int i = 0; i < names.length; i++) {
            T.on("14 undo of " + names[i], isle).row(0, 1, 33, 1015, 2008).due(2, "tie", 0, 0);
            String before = T.face.twin().depths();
            T.due(answers[i], names[i], calls[i]).due(1 + deeds[i], "count", 9).due(1, "undo", deeds[i]);
            T.same("what is there", before, T.face.twin().depths());
        }
    }

    private static void judge() {
        // 15: what 0 to 3; TRAYS 0 to 3; missing; none and 30 numbers.
        T.on("15 judge", "island 3 2; pair 2 at 0 0 and 1 0; pair 1 at 0 0 and 2 1; hour 9;");
        T.row(1, 1, -1, 2003, 22, 22, -1);
        T.edges(Check.ARGUMENT, "judge", 1, 0, 3, "3 2 11 2", 1, 0).edges(Check.NO_SUCH, "judge", 0, 0, 3,
                Check.STATE + " 3 " + Check.STATE + " " + Check.STATE, 0, 0);
        T.refused(Check.STATE, "judge", 0, 9).refused(Check.NO_SUCH, "judge", 4, 9).refused(Check.ARGUMENT, "judge", 1, 4);
        T.row(2, 0);
        T.refused("-1", "judge", 2, 0).refused("0", "judge", 2, 1).refused("9", "judge", 2, 2).refused("0", "judge", 2, 3);
        T.refused(Check.ARGUMENT, "judge", 2, 4);
        long[] thirty = new long[30];
        java.util.Arrays.fill(thirty, -1);
        T.row(3, 0, thirty).refused("-1", "judge", 3, 0).refused("39", "judge", 3, 2).refused("2", "judge", 3, 3);
        thirty[29] = -2;
        T.row(3, 0, thirty).refused("29", "judge", 3, 0).refused("1", "judge", 3, 1).refused("38", "judge", 3, 2);
        thirty[0] = -2;
        T.row(3, 0, thirty).refused("0", "judge", 3, 0).refused("1", "judge", 3, 1).refused("9", "judge", 3, 2);
        T.refused("0", "judge", 3, 3);
        // The first that can't be tells, not a later one.
        T.row(3, 1, 0, 400, 30).refused("1", "judge", 3, 0).refused("1", "judge", 3, 1).refused("10", "judge", 3, 2);
    }

    private static void told(int why, long v) {
        T.row(0, 3, v);
        T.refused(why == 0 ? "-1" : "0", "judge", 0, 0).refused(String.valueOf(why), "judge", 0, 1);
        Face here = T.face;
        T.face = here.twin();
        T.due(why == 0 ? 1 : 0, "perform", 0).due(why == 0 ? 1 : 0, "count", 9);
        T.face = here;
    }

    /** 15, 16: 0 to 399, 1000 to 1039, 2000 to 2009, NONE; nothing else. */
    private static void toldBounds() {
        T.on("15 told deeds at their bounds", FOUR);
        long[] can = {0, 1, 4, 10, 40, 44, 100, 144, 200, 244, 300, 301, 343, 344, 1000, 1001, 1009, 1010, 1038, 1039, 2000, 2001,
            2008, 2009, -1};
        for (long v : can) {
            told(0, v);
        }
        long[] never = {-2, -3, -100, -1000, 5, 9, 45, 49, 50, 54, 90, 99, 105, 150, 199, 345, 350, 398, 399, 400, 401, 500, 998, 999, 1040,
            1041, 1100, 1998, 1999, 2010, 2011, 3000, 10000, 127, 128, 255, 256, 32767, 32768, 65535, 65536,
            Integer.MAX_VALUE, Integer.MIN_VALUE, 1L << 32, (1L << 32) - 1, (1L << 32) + 1000, -(1L << 32),
            -(1L << 32) - 1, Long.MAX_VALUE, Long.MIN_VALUE, Long.MIN_VALUE + 1000};
        for (long v : never) {
            told(1, v);
        }
        // In fewer bits these are deeds: what is there is judged, as it was cut.
        T.row(1, 0, 255).refused("0", "judge", 1, 1).row(1, 1, 65535).refused("0", "judge", 1, 1);
        T.row(1, 2, (1L << 32) - 1).refused("0", "judge", 1, 1).row(1, 2, (1L << 32) + 1000).refused("0", "judge", 1, 1);
        T.row(1, 1, 65536 + 344).refused("0", "judge", 1, 1).row(1, 0, 344).refused("1", "judge", 1, 1);
    }

    /** 15: 1 no such PAIR, as many as there are. */
    private static void toldPairs() {
        for (int pairs = 0; pairs <= 4; pairs++) {
            T.on("15 told deeds of so many pairs", "island 3 3;" + "pair 9 at 1 1 and 1 1;".repeat(pairs));
            for (int p = 0; p <= 4; p++) {
                told(p < pairs ? 0 : 1, 100 * p);
                told(p < pairs ? 0 : 1, 100 * p + 44);
                told(1, 100 * p + 45);
                told(1, 100 * p + 54);
                told(p < pairs ? 0 : 1, 1000 + 10 * p);
                told(p < pairs ? 0 : 1, 1000 + 10 * p + 9);
            }
            told(0, -1);
            told(0, 2009);
        }
        T.on("15 the three kinds of why", "island 3 2; rock 1 1; pair 1 at 0 0 and 1 0;");
        told(2, 1);
        told(2, 10);
        told(2, 13);
        told(2, 40);
        told(3, 2);
        told(1, 25);
        told(1, 52);
        told(1, 122);
        told(2, 41);
    }

    /** TOLD DEEDS: RAIN for 6 HOURS. */
    private static void toldRain() {
        T.on("16 told rain", "island 2 2; pair 9 at 0 0 and 0 0; length: rain; rain 9 for 99;");
        T.row(0, 1, 2003).due(1, "perform", 0).due(3, "length", 0, 0).due(3, "length", 0, 5).due(0, "length", 0, 6);
        T.row(0, 1, 2000).due(1, "perform", 0).due(0, "length", 0, 0).due(0, "count", 7).due(2, "count", 9);
        T.row(0, 1, -1, 2009, -1, -1).due(4, "perform", 0).due(9, "length", 0, 3).due(0, "length", 0, 4).due(3, "count", 6);
    }

    /** 16: TRAYS 0 to 3, MISSING; till one can't be; 30 of them. */
    private static void perform() {
        T.on("16 perform", "island 2 2; pair 9 at 0 0 and 0 0;").row(0, 0).row(1, 1, -1, 22, 22, -1).row(2, 1, 4, -1);
        T.edges(Check.NO_SUCH, "perform", 0, 0, 3, "0 2 0 " + Check.STATE, 0);
        T.refused("0", "perform", 0).refused("0", "perform", 2).refused(Check.STATE, "perform", 3);
        T.due(2, "perform", 1).due(2, "count", 6).due(2, "count", 9).due(1, "pair", 0, 2);
        long[] thirty = new long[30];
        T.row(3, 3, thirty).due(30, "perform", 3).due(32, "count", 6).due(10, "count", 9);
        thirty[29] = 1 << 20;
        T.row(3, 3, thirty).due(29, "perform", 3).due(61, "count", 6);
    }

    private static void performForgets() {
        T.on("16 perform, each a deed", "island 2 2; pair 9 at 0 0 and 0 0;");
        T.row(0, 1, 1001, 1002, 1003, 1004, 1005, 1006, 1007, 1008, 1009, 2001, -1, 0).due(12, "perform", 0);
        T.due(10, "count", 9).due(9, "pair", 0, 1).due(9, "undo", 1).due(1, "count", 6).due(8, "undo", 1).due(0, "count", 6);
        T.due(7, "undo", 1).due(0, "count", 7).due(0, "undo", 7).due(2, "pair", 0, 1).refused(Check.ARGUMENT, "undo", 1);
    }

    /** 17: 1 to 30 times; any SEED. */
    private static void seasonTimes() {
        T.on("17 season", "island 2 2; hour 3;");
        T.edges(Check.ARGUMENT, "season", 1, 1, 30, seasonsOfNone(0, 1, 2, 29, 30), 0, 0);
        T.edges(Check.ARGUMENT, "season", 1, 1, 30, seasonsOfNone(-1, 1, 2, 29, 30), -1, 0);
        T.refused(Check.ARGUMENT, "season", Integer.MIN_VALUE, 0).refused(Check.ARGUMENT, "season", Integer.MAX_VALUE, 31);
    }

    /** Without PAIRS: how many of the first draws are 0 modulo 5, by numbers without a bound. */
    private static String seasonsOfNone(int seed, int... times) {
        StringBuilder all = new StringBuilder();
        for (int n : times) {
            Draws draws = new Draws(seed);
            int hours = 0;
            for (int i = 0; i < n; i++) {
                hours += draws.below(5) == 0 ? 1 : 0;
            }
            all.append(hours).append(' ');
        }
        return all.toString().trim();
    }

    /** 17: a DRAW wraps around as an int does, told here by numbers that don't. */
    private static final class Draws {
        private static final java.math.BigInteger FULL = java.math.BigInteger.ONE.shiftLeft(32);
        private java.math.BigInteger x;

        Draws(int seed) {
            x = java.math.BigInteger.valueOf(seed).mod(FULL);
        }

        int below(int n) {
            x = x.multiply(java.math.BigInteger.valueOf(1103515245)).add(java.math.BigInteger.valueOf(12345)).mod(FULL);
            return x.shiftRight(16).intValueExact() % n;
        }
    }

    /** The deeds of a season one by one, as calls on another object: how many could be. */
    private static int deedsOf(Face face, int seed, int times, int pairs) {
        Draws draws = new Draws(seed);
        int done = 0;
        for (int i = 0; i < times; i++) {
            int sort = draws.below(5);
            if (sort == 0) {
                face.call("hours", 1);
                done++;
            } else if (pairs > 0 && sort == 4) {
                face.call("rain", draws.below(10), 6);
                done++;
            } else if (pairs > 0 && sort == 3) {
                int p = draws.below(pairs);
                face.call("tie", p, draws.below(10));
                done++;
            } else if (pairs > 0) {
                int p = draws.below(pairs);
                int first = draws.below(5);
                done += face.call("step", p, first, draws.below(5)).startsWith("-") ? 0 : 1;
            }
        }
        return done;
    }

    private static void seasonsByDraws() {
        int[] seeds = {0, 1, -1, 2, 12345, -12345, 65535, 65536, 1 << 30, Integer.MAX_VALUE, Integer.MIN_VALUE, Integer.MAX_VALUE - 1,
            Integer.MIN_VALUE + 1, 1103515245, -1103515245, 777777777, -2000000000};
        int[] times = {1, 2, 3, 7, 29, 30};
        for (int pairs = 0; pairs <= 4; pairs++) {
            for (int seed : seeds) {
                for (int n : times) {
                    T.on("17 season of " + seed + ", " + n + " times, pairs " + pairs, "island 3 3; rock 2 2;"
                            + "pair 4 at 1 1 and 1 0;".repeat(pairs) + "length: rope - knots * rain; may: x + y > 0;");
                    Face alike = T.face.twin();
                    T.due(deedsOf(alike, seed, n, pairs), "season", seed, n);
                    T.same("what is there", alike.twin().depths(), T.face.twin().depths());
                }
            }
        }
    }

    /** 17: each a DEED, 10 at most can be UNDONE. */
    private static void seasonForgets() {
        T.on("17 season, forgotten", FOUR);
        int done = Integer.parseInt(T.face.call("season", 4711, 30));
        if (done < 11) {
            T.report("too few deeds to tell: " + done);
        }
        T.due(10, "count", 9).due(0, "undo", 10).refused(Check.ARGUMENT, "undo", 1);
    }
}
