/** Promises 1 and 5 to 9 at their edges: a new object, places, pairs, houses, and what the laws come to. */
public final class LawEdgesTest {
    private static final Check T = new Check();
    private static final String ISLE = "island 3 2; rock 1 1; house 2 1; house 0 0; pair 20 at 0 0 and 2 0 knots 9;"
            + "pair 1 at 2 1 and 2 1; pair 2 at 0 1 and 2 0 knots 3;";

    public static void main(String[] args) {
        newObject();
        place();
        placeCounts();
        pair();
        house();
        lengthHours();
        lengthWithin();
        kept();
        hourOfDay();
        rainEnds();
        may();
        mayNames();
        truths();
        lastCalls();
        Check.end();
    }

    /** 1: no PLACES, no PAIRS, TRAYS are MISSING, an empty tape. */
    private static void newObject() {
        T.promise("1 a new object");
        for (int what = -1; what <= 11; what++) {
            T.due(what < 0 || what > 10 ? -1 : 0, "count", what);
        }
        for (int t = 0; t < 4; t++) {
            T.refused(Check.STATE, "write", t, 0, 0).refused(Check.STATE, "perform", t).refused(Check.STATE, "judge", t, 0);
            // Without pairs that comes ahead of the row that is missing.
            T.refused(Check.NO_SUCH, "errands", 0, t).refused(Check.NO_SUCH, "other", 0, t);
            T.refused(Check.NO_SUCH, "copy", t, 0, 0, 0);
        }
        for (int i = 0; i < 3; i++) {
            T.refused(Check.STATE, "restore", i);
        }
        T.refused(Check.NO_SUCH, "place", 0).refused(Check.NO_SUCH, "pair", 0, 0).refused(Check.NO_SUCH, "house", 0);
        T.refused(Check.NO_SUCH, "length", 0, 0).refused(Check.NO_SUCH, "may", 0, 0, 0, 0).refused(Check.NO_SUCH, "tie", 0, 0);
        T.refused("-1", "step", 0, 0, 0).refused(Check.ARGUMENT, "undo", 1).refused(Check.ARGUMENT, "island", 1);
        T.refused("1", "housed").refused("0", "shortest", 0).refused("-1", "shortest", 10).refused("0", "dear");
        T.refused("0", "fault", 0).refused("-1", "fault", 1);
        for (String call : new String[] {"partsIn", "lasts"}) {
            T.refused(Check.NO_SUCH, call, 0);
        }
        // What needs no pair is done as on any island.
        T.due(0, "rain", 9, 1).due(0, "hours", 1).due(1, "count", 6).due(0, "count", 7).due(2, "count", 9).due(0, "undo", 2);
        T.row(0, 1, -1, 2009, 0).due(2, "judge", 0, 0).due(1, "judge", 0, 1).due(1, "judge", 0, 2).due(0, "judge", 0, 3);
        T.due(2, "perform", 0).due(9, "count", 7).due(1, "count", 6);
    }

    /** 5: PLACES from 0 on. */
    private static void place() {
        T.on("5 place", ISLE);
        T.edges(Check.NO_SUCH, "place", 0, 0, 5, "11 0 -2 21", 0);
        T.due(20, "place", 2).due(10, "place", 3);
        T.on("5 place, on the largest island", "island 5 5; rock 4 4; house 3 4; pair 1 at 0 0 and 1 0;");
        T.edges(Check.NO_SUCH, "place", 0, 0, 24, "10 10 1 -2", 0);
        T.on("5 place, on the smallest island", "island 2 2; rock 1 1;").edges(Check.NO_SUCH, "place", 0, 0, 3, "0 0 0 -2", 0);
    }

    /** 5: nobody to all eight at one place, with a house or without. */
    private static void placeCounts() {
        StringBuilder text = new StringBuilder("island 2 2; house 1 1;");
        for (int pairs = 1; pairs <= 4; pairs++) {
            text.append("pair 9 at 1 1 and 1 1;");
            T.on("5 place, with many", text.toString()).due(20 * pairs + 1, "place", 3).due(0, "place", 0);
            T.on("5 place, without a house", text.toString().replace("house 1 1", "house 0 1"));
            T.due(20 * pairs, "place", 3).due(1, "place", 2);
            T.due(1, "step", pairs - 1, 1, 0).due(20 * pairs - 10, "place", 3).due(10, "place", 1);
        }
    }

    /** 6: what 0 to 6, no others. */
    private static void pair() {
        T.on("6 pair", ISLE);
        T.edges(Check.ARGUMENT, "pair", 1, 0, 6, "20 9 11 0", 0, 0).edges(Check.NO_SUCH, "pair", 0, 0, 2, "20 1 1 2", 0, 0);
        T.edges(Check.ARGUMENT, "pair", 1, 0, 6, "1 0 1 0", 1, 0).edges(Check.ARGUMENT, "pair", 1, 0, 6, "2 3 0 0", 2, 0);
        T.due(0, "pair", 0, 2).due(2, "pair", 0, 3).due(2, "pair", 0, 4).due(3, "pair", 2, 2).due(3, "pair", 2, 4);
        // Parted as an hour goes by, when the rope is shorter than they are apart; as long is enough.
        T.due(0, "pair", 2, 5).due(4, "hours", 1).due(1, "pair", 2, 6).due(0, "pair", 0, 6).due(0, "pair", 1, 6);
        for (int knots = 0; knots <= 9; knots++) {
            T.on("6 pair, ROPE less KNOTS", "island 5 5; pair 8 at 0 0 and 4 0 knots " + knots + ";");
            T.due(Math.max(0, 8 - knots), "pair", 0, 5).due(4, "pair", 0, 4).due(knots > 4 ? 1 : 0, "hours", 1);
            T.due(knots > 4 ? 1 : 0, "pair", 0, 6).due(Math.max(0, 8 - knots), "pair", 0, 5);
        }
        for (int i = 1; i <= 4; i++) {
            T.on("6 pair, as many as there are", "island 2 2;" + "pair 7 at 1 0 and 0 1;".repeat(i));
            T.due(7, "pair", i - 1, 0).refused(Check.NO_SUCH, "pair", -1, 0).refused(Check.NO_SUCH, "pair", 4, 7);
            for (int p = i; p <= 5; p++) {
                T.refused(Check.NO_SUCH, "pair", p, 0).refused(Check.NO_SUCH, "lasts", p).refused("-1", "step", p, 0, 0);
            }
        }
        // The widest, and none at all.
        T.on("6 pair, how far apart", "island 5 5; pair 20 at 0 0 and 4 4; pair 20 at 4 0 and 0 4; pair 20 at 2 2 and 2 2;");
        T.due(8, "pair", 0, 4).due(8, "pair", 1, 4).due(0, "pair", 2, 4);
    }

    private static void house() {
        StringBuilder text = new StringBuilder("island 4 4;");
        T.on("7 house, none", text.toString()).refused(Check.NO_SUCH, "house", 0).refused(Check.NO_SUCH, "house", -1);
        for (int i = 0; i < 8; i++) {
            text.append("house ").append(3 - i % 4).append(' ').append(i / 2).append(';');
            T.on("7 house, " + (i + 1), text.toString());
            T.due(4 * (i / 2) + 3 - i % 4, "house", i).due(3, "house", 0).refused(Check.NO_SUCH, "house", -1);
            for (int h = i + 1; h <= 9; h++) {
                T.refused(Check.NO_SUCH, "house", h);
            }
        }
        T.edges(Check.NO_SUCH, "house", 0, 0, 7, "3 2 13 12", 0);
    }

    /** 8: n from 0 to 999. */
    private static void lengthHours() {
        T.on("8 length", "island 2 2; pair 3 at 0 0 and 1 1; pair 9 at 0 0 and 0 0; hour 999; length: hour + 24 * pair;");
        // 999 is 15 by 24, and 998 is 14: 1998 is 6, 1997 is 5.
        T.edges(Check.ARGUMENT, "length", 1, 0, 999, "15 16 5 6", 0, 0);
        T.edges(Check.ARGUMENT, "length", 1, 0, 999, "39 40 29 30", 1, 0);
        T.edges(Check.NO_SUCH, "length", 0, 0, 1, "17 41 17 41", 0, 2);
        T.refused(Check.NO_SUCH, "length", 2, 1000).refused(Check.NO_SUCH, "length", -1, -1);
    }

    private static void lengthIs(int want, String law) {
        T.on("8 the law length: " + law, "island 2 2; pair 7 at 0 0 and 0 0 knots 2; length: " + law + ";");
        T.due(want, "pair", 0, 5).due(want, "length", 0, 0).due(want, "length", 0, 999);
    }

    /** LENGTH: 0 at least, 99 at most; without a law ROPE less KNOTS, 0 at least. */
    private static void lengthWithin() {
        lengthIs(0, "0 - 999");
        lengthIs(0, "6 - rope");
        lengthIs(0, "7 - rope");
        lengthIs(1, "8 - rope");
        lengthIs(98, "91 + rope");
        lengthIs(99, "92 + rope");
        lengthIs(99, "93 + rope");
        lengthIs(99, "999");
        int[][] ropes = {{1, 0, 1}, {1, 1, 0}, {1, 2, 0}, {20, 0, 20}, {20, 9, 11}, {9, 8, 1}, {9, 9, 0}, {8, 9, 0}};
        for (int[] r : ropes) {
            T.on("8 no law", "island 2 2; pair " + r[0] + " at 0 0 and 0 0 knots " + r[1] + ";");
            T.due(r[2], "pair", 0, 5).due(r[2], "length", 0, 0).due(r[2], "length", 0, 999);
        }
    }

    /** Each + - * is kept from -1,000,000 to 1,000,000; in both laws. */
    private static void kept() {
        // A million less one, a million, and what is cut to it: 999 * 999 is 998001.
        String most = "999 * 999 + 999 + 999";
        lengthIs(0, most + " - 999 * 999 - 999 - 999");
        lengthIs(1, most + " + 1 - 999 * 999 - 999 - 999");
        lengthIs(1, most + " + 2 - 999 * 999 - 999 - 999");
        lengthIs(1, most + " + 999 - 999 * 999 - 999 - 999");
        lengthIs(1, "999 * 999 * 2 - 999 * 999 - 999 - 999");
        lengthIs(1, "500 * 20 * 100 - 999 * 999 - 999 - 999");
        String least = "0 - 999 * 999 - 999 - 999";
        lengthIs(5, least + " + 999 * 999 + 999 + 999 + 5");
        lengthIs(4, least + " - 1 + 999 * 999 + 999 + 999 + 5");
        lengthIs(4, least + " - 2 + 999 * 999 + 999 + 999 + 5");
        lengthIs(4, least + " - 999 + 999 * 999 + 999 + 999 + 5");
        lengthIs(4, "(0 - 2) * (999 * 999) + 999 * 999 + 999 + 999 + 5");
        lengthIs(4, "(0 - 500) * 20 * 100 + 999 * 999 + 999 + 999 + 5");
        // Kept at each sign, not only in the end; far beyond what an int holds, too.
        lengthIs(0, "999 * 999 * 999 * 0");
        lengthIs(1, "999 * 999 * (999 * 999) - 999 * 999 - 999 - 999");
        lengthIs(1, "(0 - 999 * 999) * (0 - 999 * 999) - 999 * 999 - 999 - 999");
        lengthIs(4, "(0 - 999 * 999) * (999 * 999 + 999 + 999) + 999 * 999 + 999 + 999 + 5");
        lengthIs(1, "(999 * 999 + 999 + 999 + 1) * (999 * 999 + 999 + 999 + 1) - 999 * 999 - 999 - 999");
        lengthIs(0, "999 * 999 * 2 - 999 * 999 * 2");
        lengthIs(9, "999 * 999 * 2 - (999 * 999 * 2 - 9)");
        may(true, "999 * 999 + 999 + 999 + 1 = 999 * 999 + 999 + 999 + 2");
        may(true, "999 * 999 + 999 + 999 < 999 * 999 + 999 + 999 + 1");
        may(true, "0 - 999 * 999 - 999 - 999 - 1 = 0 - 999 * 999 - 999 - 999 - 2");
        may(true, "0 - 999 * 999 - 999 - 999 > 0 - 999 * 999 - 999 - 999 - 1");
        may(true, "999 * 999 * 2 = 999 * 999 * 3");
        may(false, "999 * 999 * 2 > 999 * 999 + 999 + 999 + 1");
    }

    private static void may(boolean want, String law) {
        T.on("9 the law may: " + law, "island 3 2; pair 7 at 0 0 and 0 0; may: " + law + ";");
        T.due(String.valueOf(want), "may", 0, 0, 0, 0);
        T.due(want ? "1" : "-2", "step", 0, 2, 0);
    }

    /** HOUR modulo 24 in both laws. */
    private static void hourOfDay() {
        for (int first : new int[] {0, 1, 22, 23, 24, 25, 47, 48, 999}) {
            T.on("8, 9 the hour of the day from " + first, "island 2 2; pair 20 at 0 0 and 0 0; hour " + first
                    + "; length: hour; may: hour = 0;");
            for (int n : new int[] {0, 1, 2, 23, 24, 25, 998, 999}) {
                T.due((first + n) % 24, "length", 0, n).due((first + n) % 24 == 0 ? "true" : "false", "may", 0, 0, 1, n);
            }
            T.due(first % 24, "pair", 0, 5).due(first, "count", 6);
            // They may go to other places as the hour comes that is the first of a day.
            T.due(first % 24 == 23 ? "0" : "-2", "step", 0, 2, 2);
        }
        T.on("9 the hour that it comes to", "island 2 2; pair 20 at 0 0 and 0 0; hour 22; may: hour = 0; length: 9 + hour;");
        T.refused("-2", "step", 0, 2, 2).due(0, "step", 0, 0, 0).due(0, "step", 0, 2, 2).refused("-2", "step", 0, 4, 4);
        T.due(24, "count", 6).due(9, "pair", 0, 5).due(0, "hours", 23).due(0, "step", 0, 4, 4).due(48, "count", 6);
    }

    /** RAIN: how hard as long as it lasts, 0 else. */
    private static void rainEnds() {
        T.on("8 rain", "island 2 2; pair 20 at 0 0 and 0 0; hour 998; rain 9 for 2; length: rain; may: rain = 9;");
        T.due(9, "length", 0, 0).due(9, "length", 0, 1).due(0, "length", 0, 2).due(0, "length", 0, 999);
        T.due("true", "may", 0, 0, 0, 1).due("false", "may", 0, 0, 0, 2).due(9, "count", 7);
        T.due(0, "hours", 1).due(9, "count", 7).due(0, "length", 0, 1).due(0, "hours", 1).due(0, "count", 7);
        for (int n : new int[] {1, 2, 98, 99}) {
            T.due(0, "rain", 3, n).due(3, "length", 0, n - 1).due(0, "length", 0, n).due("false", "may", 0, 0, 0, 0);
        }
        T.due(0, "rain", 0, 99).due(0, "length", 0, 0).due(0, "count", 7);
    }

    /** 9: who 0, 1; n 0 to 999; the rock. */
    private static void may() {
        T.on("9 may", "island 3 2; rock 1 1; pair 3 at 0 0 and 2 1; pair 9 at 0 0 and 0 0; hour 5;"
                + "may: hour + 2 * who + 4 * pair + x + y > 10;");
        // 5, 6, then 1003 % 24 is 19, 1004 is 20: and at the place 5 x and y are 3.
        T.edges(Check.ARGUMENT, "may", 3, 0, 999, "false false true true", 0, 0, 5, 0);
        T.edges(Check.ARGUMENT, "may", 3, 0, 999, "true true true true", 1, 1, 5, 0);
        T.edges(Check.ARGUMENT, "may", 1, 0, 1, "false true false true", 0, 0, 5, 1);
        T.edges(Check.NO_SUCH, "may", 0, 0, 1, "false true false true", 0, 0, 5, 0);
        T.edges(Check.NO_SUCH, "may", 2, 0, 5, "false false " + Check.STATE + " true", 0, 0, 0, 3);
        // The rock comes last, the place ahead of who and n, though it is told behind them.
        T.refused(Check.STATE, "may", 0, 1, 4, 999).refused(Check.ARGUMENT, "may", 0, 2, 4, 0);
        T.refused(Check.ARGUMENT, "may", 0, 0, 4, 1000).refused(Check.ARGUMENT, "may", 0, 0, 4, -1);
        T.refused(Check.NO_SUCH, "may", 0, 2, 6, 1000).refused(Check.NO_SUCH, "may", 2, 2, 4, 1000);
        // Where they are now is asked like any other place.
        T.on("9 may, where they are", "island 2 2; pair 3 at 0 0 and 1 1; may: x = 1;");
        T.due("false", "may", 0, 0, 0, 0).due("true", "may", 0, 1, 3, 0).due("true", "may", 0, 0, 3, 0);
    }

    /** Each name is what the document says, at all places. */
    private static void mayNames() {
        for (int wide = 2; wide <= 5; wide += 3) {
            for (int high = 2; high <= 5; high += 3) {
                for (int k = 0; k < wide * high; k++) {
                    String isle = "island " + wide + " " + high + "; pair 9 at 0 0 and 0 0; pair 9 at 1 1 and 0 1; may: ";
                    T.on("9 x and y of " + k, isle + "x = " + k % wide + " and y = " + k / wide + ";");
                    for (int other = 0; other < wide * high; other++) {
                        T.due(other == k ? "true" : "false", "may", 1, 0, other, 3);
                    }
                }
            }
        }
        for (int p = 0; p < 4; p++) {
            for (int who = 0; who < 2; who++) {
                T.on("9 who and pair", "island 2 2;" + "pair 9 at 0 0 and 0 0;".repeat(4) + "may: who = " + who + " and pair = " + p + ";");
                for (int i = 0; i < 8; i++) {
                    T.due(i == 2 * p + who ? "true" : "false", "may", i / 2, i % 2, 3, 0);
                }
            }
        }
    }

    /** not binds more than and, that more than or; = < > at their edges. */
    private static void truths() {
        String[] sides = {"1=1", "1=0"};
        for (int bits = 0; bits < 8; bits++) {
            boolean a = (bits & 1) == 0;
            boolean b = (bits & 2) == 0;
            boolean c = (bits & 4) == 0;
            String p = sides[bits & 1];
            String q = sides[bits >> 1 & 1];
            String r = sides[bits >> 2 & 1];
            may(a || b && c, p + " or " + q + " and " + r);
            may(a && b || c, p + " and " + q + " or " + r);
            may((a || b) && c, "[" + p + " or " + q + "] and " + r);
            may(!a && b || c, "not " + p + " and " + q + " or " + r);
            may(!a || !b && c, "not " + p + " or not " + q + " and " + r);
            may(!(a && b) || !c, "not [" + p + " and " + q + "] or not " + r);
            may(a || b || c, p + " or " + q + " or " + r);
            may(a && b && c, p + " and " + q + " and " + r);
            may(a, "not not " + p);
        }
        for (int d = -1; d <= 1; d++) {
            may(d == 0, "7 = " + (7 + d));
            may(d > 0, "7 < " + (7 + d));
            may(d < 0, "7 > " + (7 + d));
        }
    }

    /** An object is used for 512 calls: the last of them answers as the first. */
    private static void lastCalls() {
        T.on("all 512 calls", "island 5 5; pair 1 at 0 0 and 4 4; hour 999; length: hour; may: x > 0;");
        int told = T.face.calls();
        for (int i = told; i < 511; i++) {
            T.face.call("hours", 99);
        }
        T.due(999 + 99 * (511 - told), "count", 6);
        if (T.face.calls() != 512) {
            T.report("there were " + T.face.calls() + " calls");
        }
    }
}
