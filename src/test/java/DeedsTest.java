/** Promises 10 to 17: steps, knots, rain, hours, what is undone, told deeds and seasons. */
public final class DeedsTest {
    private static final Check T = new Check();
    private static final String TWO = "island 3 2; rock 1 1; pair 2 at 0 0 and 1 0; pair 1 at 2 0 and 2 1;";
    private static final String MIDDLE = "island 3 3; pair 9 at 1 1 and 1 1; pair 9 at 1 1 and 1 1;";

    public static void main(String[] args) {
        stepWhy();
        stepHours();
        stepLaws();
        tie();
        rain();
        hours();
        undo();
        judge();
        judgeWhy();
        perform();
        season();
        seasonWithoutPairs();
        Check.end();
    }

    private static void stepWhy() {
        T.on("10 step", TWO);
        T.due(1, "step", 0, 2, 2).due(1, "pair", 0, 2).due(2, "pair", 0, 3).due(1, "count", 6).due(1, "count", 9);
        T.due(2, "step", 0, 4, 0).due(0, "pair", 0, 2).due(2, "pair", 0, 3).due(2, "count", 6).due(2, "count", 9);
        T.refused("-1", "step", 0, 5, 0).refused("-1", "step", 0, 0, 5).refused("-1", "step", 0, -1, 0);
        T.refused("-1", "step", 0, 0, -1).refused("-1", "step", 2, 0, 0).refused("-1", "step", -1, 1, 1);
        T.refused("-1", "step", 4, 0, 0).refused("-1", "step", Integer.MIN_VALUE, 9, 9);
        // Off the island on every side, and a rock.
        T.refused("-2", "step", 0, 1, 0).refused("-2", "step", 0, 4, 0).refused("-2", "step", 0, 0, 2);
        T.refused("-2", "step", 1, 0, 3).refused("-2", "step", 1, 0, 4).refused("-2", "step", 1, 1, 3);
        T.refused("-2", "step", 1, 0, 2);
        T.refused("-3", "step", 1, 4, 0).refused("-3", "step", 0, 3, 0);
        // A place that one can't go to comes ahead of being too far apart.
        T.refused("-2", "step", 1, 4, 2);
        T.due(1, "step", 1, 3, 1).due(5, "pair", 1, 2).due(2, "pair", 1, 3);
        T.due(0, "step", 1, 0, 3).due(20, "place", 5).due(0, "step", 1, 1, 1).due(30, "place", 2);
    }

    private static void stepHours() {
        // One that stays behind is parted as the hour goes by; its rope binds it no more.
        T.on("10 step and hours", "island 5 2; pair 9 at 0 0 and 0 0; pair 9 at 0 1 and 3 1; hour 22;"
                + "length : 2 + hour * 5 - pair * hour * 4;");
        T.due(22 * 5 + 2 - 88, "length", 1, 0).due(2, "length", 1, 2).due(3, "length", 1, 3);
        T.due(1, "step", 0, 2, 0).due(0, "pair", 1, 6).due(2, "step", 0, 2, 0).due(1, "pair", 1, 6);
        T.due(0, "pair", 0, 6).due(1, "count", 8).due(4, "step", 1, 0, 2).due(1, "pair", 1, 6).due(25, "count", 6);
        T.refused("-2", "step", 1, 0, 2);
        // Its own rope holds in the hour that they come to, not in this one.
        T.on("10 step by the coming hour", "island 4 2; pair 9 at 1 0 and 1 0; length: hour;");
        T.due(0, "pair", 0, 5).refused("-3", "step", 0, 2, 4).due(1, "step", 0, 2, 0).refused("-3", "step", 0, 2, 4);
        T.due(2, "step", 0, 2, 0);
    }

    private static void stepLaws() {
        T.on("10 step by the law may", "island 3 2; pair 9 at 0 0 and 0 0; pair 9 at 0 0 and 0 0; rain 5 for 3;"
                + "may: who = 0 and x = 1 and hour = 1 or who = 1 and rain = 5 and pair = 1 and y = 1;");
        T.refused("-2", "step", 0, 2, 3).refused("-2", "step", 0, 3, 0).refused("-2", "step", 1, 0, 2);
        T.due(2, "step", 1, 2, 3).refused("-2", "step", 0, 2, 0).due(1, "step", 1, 0, 2);
        T.refused("-2", "step", 1, 0, 2).due(1, "step", 1, 0, 0);
        T.due(0, "step", 0, 0, 0);
        T.on("10 step to the place 0", "island 2 2; rock 0 0; pair 9 at 1 0 and 0 1;");
        T.refused("-2", "step", 0, 4, 0).refused("-2", "step", 0, 0, 1);
        T.on("10 step to the place 0 by law", "island 2 2; pair 9 at 1 0 and 0 1; may: x + y > 0;");
        T.refused("-2", "step", 0, 4, 0).refused("-2", "step", 0, 0, 1).due(1, "step", 0, 3, 0);
        T.on("10 staying isn't asked", "island 2 2; pair 9 at 0 0 and 0 0; may: 1 = 2;");
        T.due(0, "step", 0, 0, 0).refused("-2", "step", 0, 2, 0).due(1, "count", 6);
    }

    private static void tie() {
        T.on("11 tie", "island 3 2; pair 5 at 0 0 and 2 1 knots 1; pair 5 at 0 0 and 0 0;");
        T.due(4, "pair", 0, 5).due(0, "tie", 0, 5).due(5, "pair", 0, 1).due(0, "pair", 0, 6).due(0, "count", 6);
        T.due(1, "count", 9).due(3, "tie", 0, 2).due(0, "hours", 1).due(0, "tie", 0, 9).due(1, "hours", 1);
        T.due(5, "tie", 0, 0).due(1, "pair", 0, 6).due(5, "pair", 1, 5);
        T.refused(Check.ARGUMENT, "tie", 0, 10).refused(Check.ARGUMENT, "tie", 1, -1);
        T.refused(Check.NO_SUCH, "tie", 2, 0).refused(Check.NO_SUCH, "tie", -1, 10);
        T.on("11 tie by the law", "island 3 2; pair 5 at 0 0 and 2 1; length: knots * knots + rain; rain 2 for 1;");
        T.due(83, "tie", 0, 9).due(2, "tie", 0, 0);
    }

    private static void rain() {
        T.on("12 rain", "island 4 3; pair 4 at 0 0 and 3 2; pair 5 at 0 0 and 1 1; pair 9 at 1 1 and 3 2;"
                + "pair 5 at 0 0 and 0 0; length: rope - rain;");
        T.due(1, "hours", 1).due(0, "count", 7).due(0, "rain", 0, 1).due(0, "rain", 3, 2);
        T.due(2, "rain", 4, 1).due(4, "count", 7).due(2, "rain", 5, 1).due(6, "rain", 9, 9);
        T.due(1, "count", 8).due(9, "count", 7).due(6, "count", 9).due(1, "count", 6);
        T.due(6, "hours", 1).due(3, "count", 8).due(9, "count", 7);
        T.due(0, "rain", 9, 99).due(0, "hours", 98).due(9, "count", 7).due(0, "hours", 1).due(0, "count", 7);
        T.due(0, "rain", 9, 1).due(0, "hours", 1).due(0, "count", 7);
        // New rain ends the old, though that would have lasted longer.
        T.due(0, "rain", 8, 50).due(0, "rain", 1, 1).due(0, "hours", 1).due(0, "count", 7);
        T.refused(Check.ARGUMENT, "rain", 10, 1).refused(Check.ARGUMENT, "rain", -1, 1);
        T.refused(Check.ARGUMENT, "rain", 0, 0).refused(Check.ARGUMENT, "rain", 9, 100);
        T.promise("12 rain without an island").due(0, "rain", 7, 2).due(7, "count", 7).due(1, "count", 9);
        T.due(0, "hours", 2).due(0, "count", 7).due(1, "undo", 1).due(7, "count", 7).due(0, "undo", 1).due(0, "count", 7);
    }

    private static void hours() {
        T.on("13 hours", "island 5 5; pair 4 at 0 0 and 4 0; pair 10 at 0 0 and 4 4; pair 4 at 0 0 and 1 0;"
                + "length: rope - hour;");
        T.due(1, "hours", 1).due(1, "count", 6).due(2, "hours", 2).due(4, "hours", 1).due(3, "count", 8);
        T.due(0, "hours", 5).due(9, "count", 6).due(4, "count", 9);
        // One that would be long enough again at the end is parted in between.
        T.on("13 hours, in between", "island 5 5; pair 9 at 0 0 and 1 0; hour 22; length: hour;");
        T.due(0, "hours", 1).due(1, "hours", 5).due(4, "pair", 0, 5).due(28, "count", 6).due(2, "count", 9);
        T.refused(Check.ARGUMENT, "hours", 0).refused(Check.ARGUMENT, "hours", 100).refused(Check.ARGUMENT, "hours", -5);
        T.due(0, "hours", 99).due(127, "count", 6);
        T.promise("13 hours without an island").due(0, "hours", 99).due(99, "count", 6).due(1, "count", 9);
    }

    private static void undo() {
        T.on("14 undo", TWO);
        T.refused(Check.ARGUMENT, "undo", 1).refused(Check.ARGUMENT, "undo", 0);
        String first = T.face.state();
        T.due(1, "step", 0, 2, 2).due(1, "tie", 1, 0).due(0, "tie", 0, 4).due(1, "rain", 9, 9).due(1, "hours", 5);
        T.due(5, "count", 9).refused(Check.ARGUMENT, "undo", 6).refused(Check.ARGUMENT, "undo", -1);
        T.due(4, "undo", 1).due(1, "count", 6).due(0, "pair", 0, 6).due(9, "count", 7).due(4, "pair", 0, 1);
        T.due(2, "undo", 2).due(0, "count", 7).due(0, "pair", 0, 1).due(1, "pair", 0, 2).due(0, "undo", 2);
        T.same("14 the state with all undone", first, T.face.state());
        for (int i = 0; i < 13; i++) {
            T.due(0, "hours", i + 1);
        }
        T.due(10, "count", 9).refused(Check.ARGUMENT, "undo", 11).due(91, "count", 6).due(8, "undo", 2);
        T.due(66, "count", 6).refused(Check.ARGUMENT, "undo", 9).refused(Check.ARGUMENT, "undo", 10);
        T.due(0, "hours", 1).due(9, "count", 9).due(0, "hours", 1).due(0, "hours", 1).due(0, "undo", 10);
        T.due(1 + 2 + 3 + 4, "count", 6).refused(Check.ARGUMENT, "undo", 1);
        // What only asks, and a step that can't be, is no deed.
        T.due(-2, "step", 0, 1, 1).due(0, "count", 9).due(1, "soonest", 0, 1, 2).due(0, "count", 9);
        T.on("14 undone and parted no more", "island 3 2; pair 1 at 0 0 and 2 1;");
        T.due(1, "hours", 1).due(1, "count", 8).due(0, "undo", 1).due(0, "count", 8).due(0, "pair", 0, 6);
    }

    private static void judge() {
        T.on("15 judge", TWO);
        T.refused(Check.STATE, "judge", 0, 0).refused(Check.NO_SUCH, "judge", 4, 9).refused(Check.NO_SUCH, "judge", -1, 0);
        T.refused(Check.STATE, "judge", 3, 4);
        T.row(0, 1);
        T.refused("-1", "judge", 0, 0).refused("0", "judge", 0, 1).refused("0", "judge", 0, 2).refused("0", "judge", 0, 3);
        T.refused(Check.ARGUMENT, "judge", 0, 4).refused(Check.ARGUMENT, "judge", 0, -1);
        T.row(1, 2, 22, 2003, 1002, -1, 131, 0, 44);
        // Pair 0's rope is 0 long by its knots: it is parted in the next hour, and stays free.
        T.refused("-1", "judge", 1, 0).refused("0", "judge", 1, 1).refused("5", "judge", 1, 2).refused("1", "judge", 1, 3);
        T.row(2, 3, -1, -1, 100, 140, -1);
        T.refused("3", "judge", 2, 0).refused("3", "judge", 2, 1).refused("3", "judge", 2, 2).refused("0", "judge", 2, 3);
        T.row(3, 1, 1009, -1, -1, 1, 100);
        T.refused("3", "judge", 3, 0).refused("2", "judge", 3, 1).refused("2", "judge", 3, 2).refused("1", "judge", 3, 3);
        // Those that are parted already are told as well.
        T.due(0, "tie", 0, 9).due(1, "hours", 1).row(0, 1).due(1, "judge", 0, 3).due(1, "judge", 0, 2);
        T.on("15 judge: rain of a told deed lasts six hours", "island 3 2; pair 3 at 0 0 and 1 0; length: rope - 3 + rain;");
        T.row(0, 1, 2001, -1, -1, -1, -1, -1).due(0, "judge", 0, 3);
        T.row(0, 1, 2001, -1, -1, -1, -1, -1, -1).due(1, "judge", 0, 3).due(6, "judge", 0, 2);
    }

    private static void whyOf(int why, long v) {
        T.row(0, 3, v, -1);
        T.refused(why == 0 ? "-1" : "0", "judge", 0, 0).refused(String.valueOf(why), "judge", 0, 1);
        T.refused(why == 0 ? v >= 0 && v < 400 || v == -1 ? "2" : "1" : "0", "judge", 0, 2);
    }

    private static void judgeWhy() {
        T.on("15 why a told deed can't be", TWO);
        whyOf(0, 0);
        whyOf(0, 22);
        whyOf(0, -1);
        whyOf(0, 131);
        whyOf(0, 1000);
        whyOf(0, 1009);
        whyOf(0, 1010);
        whyOf(0, 1019);
        whyOf(0, 2000);
        whyOf(0, 2009);
        whyOf(2, 1);
        whyOf(2, 12);
        whyOf(2, 143);
        whyOf(3, 140);
        whyOf(1, 5);
        whyOf(1, 50);
        whyOf(1, 99);
        whyOf(1, 200);
        whyOf(1, 399);
        whyOf(1, 400);
        whyOf(1, 999);
        whyOf(1, 1020);
        whyOf(1, 1039);
        whyOf(1, 1040);
        whyOf(1, 1999);
        whyOf(1, 2010);
        whyOf(1, -2);
        whyOf(1, 1L << 32);
        whyOf(1, (1L << 32) + 22);
        whyOf(1, Long.MIN_VALUE);
        whyOf(1, Long.MAX_VALUE);
        whyOf(1, -1L << 32);
    }

    private static void perform() {
        T.on("16 perform", TWO);
        T.refused(Check.STATE, "perform", 0).refused(Check.NO_SUCH, "perform", 4).refused(Check.NO_SUCH, "perform", -1);
        T.row(0, 1).refused("0", "perform", 0);
        T.row(1, 2, 22, 2003, 1002, -1, 131, 0, 44).due(7, "perform", 1).due(7, "count", 9).due(5, "count", 6);
        T.due(3, "count", 7).due(2, "pair", 0, 1).due(1, "pair", 0, 6).due(0, "pair", 0, 2).due(1, "pair", 0, 3);
        T.due(5, "pair", 1, 2).due(2, "pair", 1, 3).due(6, "undo", 1).due(4, "count", 6).due(3, "undo", 3).due(0, "count", 8);
        T.due(0, "undo", 3).due(0, "count", 6);
        T.row(2, 3, -1, -1, 130, 140, -1).due(3, "perform", 2).due(3, "count", 6).due(3, "count", 9);
        T.due(5, "pair", 1, 2).due(5, "pair", 1, 3);
        T.row(3, 3, 400, -1).refused("0", "perform", 3);
        T.row(3, 0, 0, -1, -1, -1, -1, -1, -1, -1, -1, -1, -1, -1, -1).due(13, "perform", 3).due(10, "count", 9);
        T.due(16, "count", 6);
    }

    private static void season() {
        T.on("17 season", MIDDLE);
        T.refused(Check.ARGUMENT, "season", 1, 0).refused(Check.ARGUMENT, "season", 1, 31);
        T.refused(Check.ARGUMENT, "season", 1, -1);
        T.due(1, "season", 0, 1).due(1, "count", 6).due(1, "count", 9).due(0, "undo", 1);
        T.due(1, "season", 1, 1).due(3, "pair", 0, 1).due(0, "pair", 1, 1).due(0, "count", 6).due(0, "undo", 1);
        T.due(1, "season", 2, 1).due(5, "pair", 1, 2).due(5, "pair", 1, 3).due(4, "pair", 0, 2).due(0, "undo", 1);
        T.due(1, "season", 4, 1).due(3, "pair", 0, 2).due(3, "pair", 0, 3).due(1, "count", 6).due(0, "undo", 1);
        T.due(1, "season", 7, 1).due(7, "pair", 0, 2).due(3, "pair", 0, 3).due(0, "undo", 1);
        T.due(1, "season", 6, 1).due(5, "count", 7).due(0, "count", 6).due(0, "hours", 5).due(5, "count", 7);
        T.due(0, "hours", 1).due(0, "count", 7).due(0, "undo", 3);
        T.due(1, "season", 55, 1).due(3, "pair", 1, 1).due(0, "pair", 0, 1).due(0, "undo", 1);
        T.due(1, "season", -340, 1).due(9, "count", 7).due(0, "undo", 1);
        T.due(1, "season", -1, 1).due(5, "pair", 1, 2).due(1, "pair", 1, 3).due(0, "undo", 1);
        // By the draws of 0: an hour, then 54236 % 5 = 1, pair 42756 % 2 = 0, turns 0 and 3.
        T.due(2, "season", 0, 2).due(4, "pair", 0, 2).due(7, "pair", 0, 3).due(2, "count", 6).due(2, "count", 9);
    }

    private static void seasonWithoutPairs() {
        T.promise("17 season without pairs");
        T.due(2, "season", 3, 3).due(2, "count", 6).due(2, "count", 9).due(0, "undo", 2);
        T.due(1, "season", 1, 6).due(1, "count", 6).due(0, "count", 7);
        T.due(0, "season", 1, 5);
        // One that can't be draws as much as one that can, and is no deed.
        T.on("17 season, steps that can't be", "island 2 2; rock 1 0; rock 0 1; pair 9 at 0 0 and 0 0;");
        T.due(0, "season", 2, 1).due(0, "count", 9).due(0, "count", 6);
        T.due(0, "season", 7, 1).due(0, "season", 4, 1).due(0, "count", 9);
    }
}
