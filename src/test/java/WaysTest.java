/** Promises 24 to 33: ways of both to two places, and errands. */
public final class WaysTest {
    private static final Check T = new Check();
    /** A row of five places, 0 to 4, with rocks below it. */
    private static final String ROW = "island 5 2; rock 0 1; rock 1 1; rock 2 1; rock 3 1; rock 4 1;";

    public static void main(String[] args) {
        soonest();
        soonestByLaws();
        leads();
        ways();
        alone();
        costs();
        leastRope();
        needed();
        clear();
        errands();
        errandsWrong();
        dropped();
        Check.end();
    }

    private static void walksRefused(String call, long... more) {
        long[][] walks = {{1, 0, 0}, {-1, 0, 0}, {0, 10, 0}, {0, 0, 10}, {0, -1, 0}, {0, 0, -1}, {7, 70, -70}};
        for (long[] walk : walks) {
            long[] all = java.util.Arrays.copyOf(walk, 3 + more.length);
            System.arraycopy(more, 0, all, 3, more.length);
            T.refused(Check.NO_SUCH, call, all);
        }
    }

    private static void soonest() {
        T.on("24 soonest", ROW + "pair 2 at 0 0 and 1 0;");
        T.due(0, "soonest", 0, 0, 1).due(1, "soonest", 0, 0, 0).due(1, "soonest", 0, 1, 0).due(4, "soonest", 0, 4, 3);
        T.due(4, "soonest", 0, 4, 2).due(-1, "soonest", 0, 4, 1).due(-1, "soonest", 0, 5, 1).due(-1, "soonest", 0, 0, 9);
        T.due(3, "soonest", 0, 2, 4).due(3, "soonest", 0, 3, 4);
        walksRefused("soonest");
        // They need not be able to stay at the end.
        T.on("24 soonest, in the last hour", ROW + "pair 4 at 0 0 and 0 0; length: 4 - hour; may: who = 0;");
        T.due(2, "soonest", 0, 2, 0).due(-1, "soonest", 0, 3, 0);
        T.on("24 soonest, forty hours at most", ROW + "pair 9 at 0 0 and 0 0; rain 1 for 40; may: rain = 0;");
        T.due(40, "soonest", 0, 1, 1).due(-1, "soonest", 0, 2, 1).due(0, "soonest", 0, 0, 0);
        T.due(0, "rain", 1, 41).due(-1, "soonest", 0, 1, 1).due(0, "hours", 1).due(40, "soonest", 0, 1, 1);
    }

    private static void soonestByLaws() {
        // The only gap is open to each of them in one hour of the day.
        T.on("24 soonest by laws", "island 3 3; rock 0 1; rock 2 1; pair 4 at 0 0 and 2 0;"
                + "may: not [x = 1 and y = 1] or who = 0 and hour = 2 or who = 1 and hour = 4;");
        T.due(3, "soonest", 0, 7, 1).due(5, "soonest", 0, 7, 7).due(5, "soonest", 0, 4, 7).due(6, "soonest", 0, 8, 6);
        T.due(0, "hours", 1).due(4, "soonest", 0, 1, 7).due(26, "soonest", 0, 7, 1);
        T.on("24 soonest, tied", ROW + "pair 1 at 0 0 and 0 0; pair 1 at 0 0 and 4 0;");
        T.due(4, "soonest", 0, 4, 4).due(4, "soonest", 0, 3, 4).due(-1, "soonest", 0, 0, 4).due(-1, "soonest", 1, 1, 1);
        T.due(-1, "soonest", 1, 0, 0).due(0, "soonest", 1, 0, 4).due(2, "hours", 1).due(2, "soonest", 1, 2, 2);
        T.due(0, "soonest", 1, 0, 4).due(4, "soonest", 1, 4, 0);
    }

    private static void leads() {
        T.on("25 leads", ROW + "pair 2 at 0 0 and 1 0;");
        T.due(20, "leads", 0, 4, 3, 1).due(20, "leads", 0, 4, 3, 2).due(22, "leads", 0, 4, 3, 3).due(22, "leads", 0, 4, 3, 4);
        T.due(-1, "leads", 0, 4, 3, 5).due(-1, "leads", 0, 4, 3, 41).due(-1, "leads", 0, 4, 3, Integer.MAX_VALUE);
        T.due(-1, "leads", 0, 0, 1, 1).due(-1, "leads", 0, 4, 1, 1).due(-1, "leads", 0, 5, 1, 1);
        T.due(24, "leads", 0, 1, 0, 1).due(2, "leads", 0, 2, 4, 1).due(22, "leads", 0, 2, 4, 2).due(22, "leads", 0, 2, 4, 3);
        T.refused(Check.ARGUMENT, "leads", 0, 4, 3, 0).refused(Check.ARGUMENT, "leads", 0, 4, 3, Integer.MIN_VALUE);
        walksRefused("leads", 0);
        T.on("25 leads, forty hours", ROW + "pair 9 at 0 0 and 0 0; rain 1 for 40; may: rain = 0;");
        T.due(0, "leads", 0, 1, 1, 39).due(22, "leads", 0, 1, 1, 40).due(-1, "leads", 0, 1, 1, 41).due(-1, "leads", 0, 2, 1, 1);
        // They must be where the gap opens in time; what they needn't do yet they leave for later.
        T.on("25 leads by laws", "island 3 3; rock 0 1; rock 2 1; pair 4 at 0 0 and 2 0;"
                + "may: not [x = 1 and y = 1] or who = 0 and hour = 2 or who = 1 and hour = 4;");
        T.due(20, "leads", 0, 7, 7, 1).due(30, "leads", 0, 7, 7, 2).due(4, "leads", 0, 7, 7, 3).due(3, "leads", 0, 7, 7, 4);
        T.due(33, "leads", 0, 7, 7, 5).due(-1, "leads", 0, 7, 7, 6);
        // Of like ones north is ahead of east, east of south, south of west; the first one's turns weigh more.
        T.on("25 leads, of like ones", "island 3 3; pair 9 at 1 1 and 1 1;");
        T.due(12, "leads", 0, 2, 8, 1).due(23, "leads", 0, 2, 8, 2).due(13, "leads", 0, 0, 6, 1).due(44, "leads", 0, 0, 6, 2);
        T.due(22, "leads", 0, 8, 8, 1).due(33, "leads", 0, 8, 8, 2).due(30, "leads", 0, 6, 4, 1).due(40, "leads", 0, 6, 4, 2);
        T.due(1, "leads", 0, 4, 1, 1).due(10, "leads", 0, 1, 4, 1).due(1, "soonest", 0, 1, 4);
    }

    private static void ways() {
        T.on("26 ways", ROW + "pair 2 at 0 0 and 1 0;");
        T.due(1, "ways", 0, 0, 1, 0).due(0, "ways", 0, 0, 0, 0).due(1, "ways", 0, 0, 0, 1).due(1, "ways", 0, 1, 0, 1);
        T.due(6, "ways", 0, 0, 1, 2).due(0, "ways", 0, 4, 3, 3).due(0, "ways", 0, 5, 3, 3).due(0, "ways", 0, 4, 1, 8);
        // East four times; the second east twice, or three times and west once.
        T.due(10, "ways", 0, 4, 3, 4);
        T.refused(Check.ARGUMENT, "ways", 0, 0, 0, 9).refused(Check.ARGUMENT, "ways", 0, 0, 0, -1);
        walksRefused("ways", 9);
        T.on("26 ways, unbound", "island 5 5; pair 20 at 2 2 and 2 2; pair 20 at 2 2 and 2 2 knots 9; length: rope - 20 * pair;");
        T.due(25, "ways", 0, 12, 12, 2).due(13 * 13, "ways", 0, 12, 12, 3).due(1, "ways", 1, 12, 12, 0);
        T.due(5, "ways", 1, 12, 12, 2).due(1, "ways", 1, 7, 7, 1).due(0, "ways", 1, 7, 12, 1);
    }

    private static void alone() {
        T.on("27 alone", ROW + "pair 2 at 0 0 and 1 0; pair 2 at 0 0 and 1 0; may: who = 0 or pair = 0;");
        T.due(0, "alone", 0, 0, 0).due(4, "alone", 0, 0, 4).due(3, "alone", 0, 1, 4).due(1, "alone", 0, 1, 0);
        T.due(-1, "alone", 0, 0, 7).due(3, "alone", 1, 0, 3).due(-1, "alone", 1, 0, 4).due(-1, "alone", 1, 1, 0);
        T.due(0, "alone", 1, 1, 1);
        T.refused(Check.ARGUMENT, "alone", 0, 2, 0).refused(Check.ARGUMENT, "alone", 0, -1, 0);
        T.refused(Check.NO_SUCH, "alone", 2, 2, 0).refused(Check.NO_SUCH, "alone", 0, 2, 10);
        T.refused(Check.NO_SUCH, "alone", 0, -1, -1).refused(Check.NO_SUCH, "alone", -1, 0, 0);
        T.on("27 alone, forty hours at most", ROW + "pair 9 at 0 0 and 0 0; rain 1 for 40; may: rain = 0;");
        T.due(40, "alone", 0, 0, 1).due(40, "alone", 0, 1, 1).due(-1, "alone", 0, 1, 2);
    }

    private static void costs() {
        T.on("28 costs", ROW + "pair 2 at 0 0 and 0 0; pair 9 at 0 0 and 0 0; length: rope * pair + hour - 2; may: who = 0;");
        T.due(6, "alone", 0, 0, 4).due(2, "costs", 0, 0, 4).due(2, "costs", 0, 0, 1).due(0, "costs", 1, 0, 4);
        T.due(0, "costs", 0, 0, 0).due(-1, "costs", 0, 1, 1).due(-1, "costs", 0, 0, 5);
        T.refused(Check.ARGUMENT, "costs", 0, 2, 0).refused(Check.ARGUMENT, "costs", 0, -1, 0);
        T.refused(Check.NO_SUCH, "costs", 2, 2, 0).refused(Check.NO_SUCH, "costs", 0, 2, 10);
        T.refused(Check.NO_SUCH, "costs", 0, -1, -1).refused(Check.NO_SUCH, "costs", -1, 0, 0);
        T.on("28 costs, not by then when tied", ROW + "pair 2 at 0 0 and 0 0; may: who = 0;");
        T.due(-1, "costs", 0, 0, 3).due(0, "costs", 0, 0, 2).due(-1, "costs", 0, 1, 2);
        T.on("28 costs of those that are parted", ROW + "pair 2 at 0 0 and 4 0; may: who = 0;");
        T.due(-1, "alone", 0, 0, 4).due(1, "hours", 1).due(4, "alone", 0, 0, 4).due(0, "costs", 0, 0, 4);
        T.due(0, "costs", 0, 0, 0).due(-1, "costs", 0, 1, 3);
    }

    private static void leastRope() {
        T.on("29 leastRope", ROW + "pair 1 at 0 0 and 0 0 knots 2; pair 20 at 0 0 and 0 0; may: who = 0;");
        T.due(5, "leastRope", 0, 3, 0).due(6, "leastRope", 0, 4, 0).due(1, "leastRope", 0, 0, 0).due(4, "leastRope", 1, 4, 0);
        T.due(-1, "leastRope", 0, 4, 1).due(-1, "leastRope", 0, 5, 0).due(1, "pair", 0, 0).due(20, "pair", 1, 0);
        T.refused(Check.NO_SUCH, "leastRope", 2, 0, 0).refused(Check.NO_SUCH, "leastRope", -1, 0, 0);
        T.refused(Check.NO_SUCH, "leastRope", 0, 10, 0).refused(Check.NO_SUCH, "leastRope", 0, 0, -1);
        T.on("29 leastRope by the law", ROW + "pair 1 at 0 0 and 0 0; length: rope * (20 - rope) - 90; may: who = 0;");
        // 20 - 9 = 11 times 9 is 99, nine more than 90; 7 times 13 is 91.
        T.due(7, "leastRope", 0, 1, 0).due(8, "leastRope", 0, 4, 0).due(1, "leastRope", 0, 0, 0);
        T.on("29 leastRope, none is long enough", ROW + "pair 1 at 0 0 and 0 0; length: 3; may: who = 0;");
        T.due(-1, "leastRope", 0, 4, 0).due(1, "leastRope", 0, 3, 0);
        T.on("29 leastRope, the longest", ROW + "pair 1 at 0 0 and 0 0; length: rope - 16; may: who = 0;");
        T.due(20, "leastRope", 0, 4, 0).due(19, "leastRope", 0, 3, 0);
        T.on("29 leastRope of those that are parted", ROW + "pair 1 at 0 0 and 2 0; may: who = 0;");
        T.due(2, "leastRope", 0, 4, 2).due(1, "hours", 1).due(1, "leastRope", 0, 4, 2).due(-1, "leastRope", 0, 4, 3);
    }

    private static void needed() {
        T.on("30 needed", ROW + "pair 9 at 0 0 and 0 0;");
        T.due(4 + 8, "needed", 0, 4, 1).due(2 + 4 + 8, "needed", 0, 4, 0).due(2 + 4, "needed", 0, 4, 3).due(0, "needed", 0, 0, 0);
        T.due(0, "needed", 0, 1, 1).due(0, "needed", 0, 5, 1);
        walksRefused("needed");
        T.due(14, "needed", 0, 0, 4);
        T.on("30 needed, but not where they are", ROW + "pair 9 at 1 0 and 0 0; pair 9 at 0 0 and 1 0;");
        T.due(4, "needed", 0, 3, 4).due(4, "needed", 1, 4, 3).due(0, "needed", 0, 2, 1).due(0, "needed", 1, 1, 2);
        T.on("30 needed, the place 0", "island 2 2; rock 1 1; pair 9 at 1 0 and 1 0;").due(1, "needed", 0, 2, 1);
        T.due(1, "needed", 0, 1, 2).due(0, "needed", 0, 0, 0);
        T.on("30 needed, two ways round", "island 3 3; rock 1 1; pair 9 at 0 0 and 0 0; pair 9 at 0 0 and 0 0;");
        T.due(0, "needed", 0, 8, 8).due(0, "needed", 0, 1, 8);
        T.on("30 needed, one gap", "island 3 3; rock 0 1; rock 2 1; pair 9 at 0 0 and 2 0;");
        T.due(1 << 4 | 1 << 1 | 1 << 7, "needed", 0, 8, 6).due(1 << 4 | 1 << 1 | 1 << 7, "needed", 0, 8, 8);
        T.due(1 << 1 | 1 << 4, "needed", 0, 7, 2).due(1 << 1, "needed", 0, 4, 2).due(0, "needed", 0, 3, 2);
        // A way round that takes more than forty hours is none.
        T.on("30 needed by then", "island 3 3; pair 9 at 0 0 and 0 0; rain 1 for 38; may: rain = 0 or x = 0 and y = 0; rock 1 1;");
        T.due(1 << 1, "needed", 0, 2, 0).due(0, "rain", 1, 36).due(1 << 1, "needed", 0, 2, 0).due(0, "rain", 1, 35).due(0, "needed", 0, 2, 0);
    }

    private static void clear() {
        T.on("31 clear", "island 3 3; rock 0 1; rock 1 1; rock 2 1; pair 9 at 0 0 and 0 0; pair 9 at 1 0 and 1 0;");
        T.due(3, "clear", 0, 6, 6).due(3, "clear", 0, 8, 8).due(4, "clear", 1, 7, 7).due(3, "clear", 1, 6, 0);
        T.due(3, "clear", 1, 6, 6).due(4, "clear", 1, 8, 8).due(5, "clear", 1, 5, 8).due(-1, "clear", 0, 2, 1).due(3, "clear", 0, 3, 0);
        T.due(4, "clear", 1, 4, 4).due(-1, "clear", 0, 3, 4).due(3, "count", 5).due(-2, "place", 3);
        T.refused(Check.NO_SUCH, "clear", 2, 0, 0).refused(Check.NO_SUCH, "clear", 0, 9, 0);
        T.refused(Check.NO_SUCH, "clear", 0, 0, -1);
        T.on("31 clear, sooner than now", "island 3 3; rock 1 1; pair 9 at 1 0 and 1 0;");
        T.due(4, "clear", 0, 7, 1).due(-1, "clear", 0, 8, 1).due(-1, "clear", 0, 6, 6).due(4, "clear", 0, 4, 1);
        T.on("31 clear the place 0", "island 2 2; rock 0 0; rock 1 1; pair 9 at 1 0 and 1 0;");
        T.due(0, "clear", 0, 0, 0).due(0, "clear", 0, 2, 1).due(3, "clear", 0, 1, 3);
        T.on("31 clear, forty hours at most", "island 3 2; rock 1 0; rock 1 1; pair 9 at 0 0 and 0 0; rain 1 for 40; may: rain = 0;");
        T.due(1, "clear", 0, 1, 0).due(-1, "clear", 0, 2, 0).due(0, "rain", 1, 41).due(-1, "clear", 0, 1, 0);
        T.on("31 clear without rocks", "island 3 3; pair 1 at 0 0 and 2 2;").due(-1, "clear", 0, 1, 1);
        T.on("31 clear, but not by law", "island 3 2; rock 1 0; rock 1 1; pair 9 at 0 0 and 0 0; may: not x = 1 or y = 1;");
        T.due(4, "clear", 0, 2, 0);
    }

    private static void errands() {
        T.on("32 errands", ROW + "pair 4 at 2 0 and 2 0; pair 1 at 2 0 and 2 0;");
        T.row(0, 1, 0, 4).due(6, "errands", 0, 0);
        T.row(0, 1, 4, 0, 4, 0).due(6, "errands", 0, 0);
        T.row(0, 1, 0, 104).due(2, "errands", 0, 0).due(5, "errands", 1, 0);
        T.row(0, 1, 0, 104, 100, 4).due(6, "errands", 0, 0);
        T.row(0, 1, 2).due(0, "errands", 0, 0);
        T.row(0, 1, 2, 102, 2, 102).due(0, "errands", 0, 0);
        T.row(0, 1, 3, 2).due(1, "errands", 0, 0);
        T.row(0, 1, 3, 103, 1).due(3, "errands", 0, 0).due(3, "errands", 1, 0);
        T.row(0, 1, 7).due(-1, "errands", 0, 0);
        T.row(0, 1, 0, 105, 1).due(-1, "errands", 0, 0);
        T.on("32 errands, forty hours at most", ROW + "pair 9 at 0 0 and 0 0; rain 1 for 40; may: rain = 0;");
        T.row(0, 1, 1, 101).due(40, "errands", 0, 0).row(0, 1, 1, 102).due(-1, "errands", 0, 0);
        // What was done stays done, though they can't be there again.
        T.on("32 errands by the hour", ROW + "pair 9 at 1 0 and 2 0; length: 2 - hour; may: who = 0;");
        T.row(0, 1, 1, 2).due(1, "errands", 0, 0).row(0, 1, 1, 0).due(-1, "errands", 0, 0);
        T.row(0, 1, 0).due(-1, "errands", 0, 0).row(0, 1, 2, 3).due(24, "errands", 0, 0);
        T.on("32 errands, no way on", ROW + "pair 1 at 0 0 and 4 0;");
        T.row(0, 1, 0, 104).due(0, "errands", 0, 0).row(0, 1, 0, 1).due(-1, "errands", 0, 0).due(1, "dropped", 0, 0);
        T.row(0, 1, 1, 2).due(-1, "errands", 0, 0).due(-1, "dropped", 0, 0);
    }

    private static void errandsWrong() {
        for (String call : new String[] {"errands", "dropped"}) {
            T.on("32, 33 wrong errands: " + call, ROW + "pair 4 at 2 0 and 2 0;");
            T.row(1, 3).row(2, 1, 0, 0, 0, 0, 0);
            T.refused(Check.STATE, call, 0, 0).refused(Check.NO_SUCH, call, 1, 0).refused(Check.NO_SUCH, call, 0, 4);
            T.refused(Check.NO_SUCH, call, -1, 1).refused(Check.NO_SUCH, call, 0, -1).refused(Check.STATE, call, 0, 3);
            T.refused(Check.ARGUMENT, call, 0, 1).refused(Check.ARGUMENT, call, 0, 2);
            long[] none = {10, 99, 110, 199, 200, -1, -100, 1L << 32, (1L << 32) + 100, Long.MIN_VALUE, Long.MAX_VALUE};
            for (long v : none) {
                T.row(1, 3, 0, v).refused(Check.ARGUMENT, call, 0, 1);
                T.row(1, 3, v, 0).refused(Check.ARGUMENT, call, 0, 1);
            }
            T.row(1, 3, 9, 100, 109, 0).due(-1, call, 0, 1);
        }
    }

    private static void dropped() {
        T.on("33 dropped", ROW + "pair 4 at 2 0 and 2 0;");
        T.row(0, 1, 0, 4, 103).due(0, "dropped", 0, 0);
        T.row(0, 1, 103, 0, 4).due(1, "dropped", 0, 0);
        T.row(0, 1, 1, 0, 4).due(2, "dropped", 0, 0);
        T.row(0, 1, 0, 0, 4).due(2, "dropped", 0, 0);
        T.row(0, 1, 4, 0, 0).due(0, "dropped", 0, 0);
        T.row(0, 1, 0, 0, 4, 4).due(0, "dropped", 0, 0);
        T.row(0, 1, 4).due(0, "dropped", 0, 0);
        T.row(0, 1, 2, 102).due(0, "dropped", 0, 0);
        T.row(0, 1, 2, 3).due(1, "dropped", 0, 0);
        T.row(0, 1, 7).due(0, "dropped", 0, 0);
        T.row(0, 1, 0, 107, 4).due(1, "dropped", 0, 0);
        T.row(0, 1, 7, 107).due(-1, "dropped", 0, 0);
        T.row(0, 1, 7, 0, 7).due(-1, "dropped", 0, 0);
        T.on("33 dropped, forty hours at most", ROW + "pair 9 at 0 0 and 0 0; rain 1 for 40; may: rain = 0;");
        T.row(0, 1, 1, 107).due(1, "dropped", 0, 0).row(0, 1, 1, 2).due(1, "dropped", 0, 0);
        T.row(0, 1, 2, 1, 107).due(-1, "dropped", 0, 0).due(0, "rain", 1, 41).row(0, 1, 1, 107).due(-1, "dropped", 0, 0);
    }
}
