/** Promises 34 to 39: houses for all pairs, and where the other may be by what was seen. */
public final class HomesTest {
    private static final Check T = new Check();
    /** A row of five places, 0 to 4, with rocks below it. */
    private static final String ROW = "island 5 2; rock 0 1; rock 1 1; rock 2 1; rock 3 1; rock 4 1;";
    private static final String FOUR = "island 3 2; house 0 0; house 1 0; house 2 0; house 0 1;";
    private static final String EIGHT = "island 4 2; house 0 0; house 1 0; house 2 0; house 3 0;"
            + "house 0 1; house 1 1; house 2 1; house 3 1;";

    public static void main(String[] args) {
        housed();
        shortest();
        dear();
        partedOnes();
        other();
        fits();
        look();
        seenWrong();
        Check.end();
    }

    private static void housed() {
        T.promise("34 housed without an island").due(1, "housed").due(0, "dear");
        T.on("34 housed without pairs", "island 2 2; house 0 0; house 1 0;").due(1, "housed").due(0, "dear");
        T.on("34 housed, no houses", "island 2 2; pair 9 at 0 0 and 0 0;").due(0, "housed");
        T.on("34 housed, one house", "island 2 2; pair 9 at 0 0 and 0 0; house 1 1;").due(0, "housed");
        T.on("34 housed, two houses", "island 2 2; pair 9 at 0 0 and 0 0; house 1 1; house 0 0;").due(2, "housed");
        T.on("34 housed, three", "island 2 2; pair 9 at 0 0 and 0 0; house 1 1; house 0 0; house 0 1;").due(6, "housed");
        T.on("34 housed, by length", FOUR + "pair 1 at 0 1 and 2 1; pair 5 at 1 1 and 1 1;").due(12, "housed");
        T.due(0, "tie", 0, 1).due(0, "housed").due(4, "tie", 1, 1).due(1, "tie", 0, 0).due(12, "housed");
        T.due(2, "tie", 1, 3).due(8, "housed");
        T.on("34 housed, by length now", FOUR + "pair 9 at 0 0 and 0 0; length: 3 - rain; rain 3 for 1;");
        T.due(0, "housed").due(0, "hours", 1).due(12, "housed").due(0, "rain", 2, 1).due(6, "housed");
        String pair = "pair 9 at 0 0 and 0 0;";
        T.on("34 housed, eight houses", EIGHT + pair + pair + pair + pair).due(40320, "housed");
        T.on("34 housed, three pairs", EIGHT + pair + pair + pair).due(20160, "housed");
        T.on("34 housed, next doors", EIGHT + "pair 1 at 0 0 and 0 0;").due(20, "housed");
    }

    private static void shortest() {
        T.promise("35 shortest without an island").due(0, "shortest", 0).due(-1, "shortest", 10).due(-1, "shortest", 17);
        for (int what : new int[] {1, -1, 9, 18, Integer.MIN_VALUE, Integer.MAX_VALUE}) {
            T.refused(Check.ARGUMENT, "shortest", what);
        }
        T.on("35 shortest without pairs", "island 2 2; house 0 0;").due(0, "shortest", 0).due(-1, "shortest", 10);
        T.on("35 shortest", FOUR + "pair 1 at 0 1 and 2 1; pair 5 at 1 1 and 1 1;");
        // Pair 0 is next door in 0 and 1, 1 and 2, 0 and 3: three from home each time, and the others three.
        T.due(6, "shortest", 0).due(0, "shortest", 10).due(1, "shortest", 11).due(2, "shortest", 12).due(3, "shortest", 13);
        T.due(-1, "shortest", 14).due(-1, "shortest", 17);
        for (int what : new int[] {1, -1, 9, 18, Integer.MIN_VALUE, Integer.MAX_VALUE}) {
            T.refused(Check.ARGUMENT, "shortest", what);
        }
        T.due(0, "tie", 0, 1).due(-1, "shortest", 0).due(-1, "shortest", 10).due(-1, "shortest", 15);
        T.refused(Check.ARGUMENT, "shortest", 18);
        T.on("35 shortest, each from its own", "island 5 2; house 0 0; house 4 0; house 2 1; pair 20 at 4 0 and 1 0;");
        T.due(1, "shortest", 0).due(1, "shortest", 10).due(0, "shortest", 11);
        T.on("35 shortest, of like ones", "island 3 2; house 2 0; house 0 0; house 1 1; pair 20 at 1 0 and 1 0;");
        T.due(2, "shortest", 0).due(0, "shortest", 10).due(1, "shortest", 11);
        T.on("35 shortest, eight at home", EIGHT + "pair 9 at 1 0 and 0 0; pair 9 at 2 0 and 3 0; pair 9 at 0 1 and 1 1;"
                + "pair 9 at 3 1 and 2 1;");
        long[] homes = {1, 0, 2, 3, 4, 5, 7, 6};
        for (int i = 0; i < 8; i++) {
            T.due(homes[i], "shortest", 10 + i);
        }
        T.due(0, "shortest", 0);
        // The nearest for the first of all is not the best for all.
        T.on("35 shortest in all", "island 5 2; house 2 0; house 0 0; house 2 1; house 3 1;"
                + "pair 20 at 1 0 and 2 1; pair 20 at 3 0 and 3 1;");
        T.due(2, "shortest", 0).due(1, "shortest", 10).due(2, "shortest", 11).due(0, "shortest", 12).due(3, "shortest", 13);
    }

    private static void dear() {
        T.on("36 dear", FOUR + "pair 1 at 0 1 and 2 1; pair 5 at 1 1 and 1 1;").due(15, "dear");
        T.due(0, "tie", 0, 1).due(0, "dear");
        T.on("36 dear, none", EIGHT + "pair 9 at 0 0 and 0 0;").due(0, "dear");
        T.on("36 dear, one between", "island 5 5; house 0 0; house 4 4; house 0 2; house 4 1; house 1 0; pair 2 at 1 1 and 1 1;"
                + "pair 20 at 1 1 and 1 1;");
        // Pair 0 can have 0 and 2, or 0 and 4.
        T.due(1, "dear").due(0, "tie", 0, 2).due(0, "dear");
        T.on("36 dear, three for two", "island 5 2; house 0 0; house 1 0; house 2 0; pair 1 at 4 0 and 4 0;").due(2, "dear");
    }

    private static void partedOnes() {
        T.on("34 parted ones are housed", "island 5 5; house 0 0; house 4 4; pair 1 at 0 0 and 4 0;");
        T.due(0, "housed").due(-1, "shortest", 0).due(1, "hours", 1).due(2, "housed").due(4, "shortest", 0);
        T.due(0, "shortest", 10).due(1, "shortest", 11).due(3, "dear");
    }

    private static void other() {
        T.on("37 other", ROW + "pair 2 at 0 0 and 1 0; pair 2 at 0 0 and 1 0; may: pair = 0 or who = 0;");
        T.row(0, 0, 1).due(7, "other", 0, 0).due(2, "other", 1, 0);
        T.row(0, 0, 0).due(7, "other", 0, 0);
        T.row(0, 0, 2).due(0, "other", 0, 0);
        T.row(0, 0, -1).due(7, "other", 0, 0);
        T.row(0, 0, -1, 2).due(15, "other", 0, 0);
        T.row(0, 0, 0, 0).due(7, "other", 0, 0);
        T.row(0, 0, 1, 2, 3, 4).due(16 + 8 + 4, "other", 0, 0).due(0, "other", 1, 0);
        T.row(0, 0, 1, 2, 3, -1).due(31, "other", 0, 0).due(2, "other", 1, 0);
        T.row(0, 0, 1, 9, 1).due(0, "other", 0, 0);
        T.row(0, 0, new long[20]).due(7, "other", 0, 0);
        long[] unseen = new long[20];
        java.util.Arrays.fill(unseen, -1);
        T.row(0, 3, unseen).due(31, "other", 0, 0);
        unseen[18] = 4;
        T.row(0, 3, unseen).due(30, "other", 0, 0);
        unseen[19] = 4;
        T.row(0, 3, unseen).due(28, "other", 0, 0);
    }

    private static void fits() {
        T.on("38 fits", ROW + "pair 2 at 0 0 and 1 0;");
        T.row(0, 0, 1).due(3, "fits", 0, 0).row(0, 0, -1).due(6, "fits", 0, 0).row(0, 0, 4).due(0, "fits", 0, 0);
        T.row(0, 0, 8).due(0, "fits", 0, 0).row(0, 0, 0, 2).due(0, "fits", 0, 0);
        // By 1 and 2: the second is at 0, 1 or 2, then at 0 to 1, 0 to 2, 1 to 3.
        T.row(0, 0, 1, 2).due(2 + 3 + 3, "fits", 0, 0);
        T.on("38 fits, unbound", "island 5 5; pair 20 at 2 2 and 2 2; pair 20 at 2 2 and 2 2; may: pair = 0;");
        T.row(0, 0, 12).due(5, "fits", 0, 0).row(0, 0, -1).due(25, "fits", 0, 0).row(0, 0, -1, -1).due(625, "fits", 0, 0);
        T.row(0, 0, -1, 12).due(5 * 25, "fits", 0, 0).row(0, 0, -1, -1, -1, -1, -1, -1, -1, -1).due(1, "fits", 1, 0);
        T.due(241513L * 241513L, "fits", 0, 0);
    }

    private static void look() {
        T.on("39 look", ROW + "pair 2 at 0 0 and 1 0;");
        // Three places, each in one of three ways: the first.
        T.row(0, 0, 1).due(0, "look", 0, 0).row(0, 0, 4).due(-1, "look", 0, 0);
        // Of 8 ways by 1 and 2: 0 twice, 1 three times, 2 twice or more.
        T.row(0, 0, 1, 2).due(1, "look", 0, 0);
        T.on("39 look, only one", ROW + "pair 2 at 0 0 and 1 0; may: who = 0;");
        T.row(0, 0, 1).due(0, "look", 0, 0).due(1, "fits", 0, 0);
        T.on("39 look on a field", "island 3 3; pair 9 at 0 0 and 1 1; pair 9 at 0 0 and 2 2;");
        T.row(0, 0, -1).due(1, "look", 0, 0).due(5, "look", 1, 0).row(0, 0, -1, -1).due(4, "look", 0, 0);
    }

    private static void seenWrong() {
        for (String call : new String[] {"other", "fits", "look"}) {
            T.on("37 to 39 wrong: " + call, ROW + "pair 2 at 0 0 and 1 0;");
            T.row(1, 3).row(2, 3, new long[21]).row(3, 3, new long[9]);
            T.refused(Check.STATE, call, 0, 0).refused(Check.NO_SUCH, call, 0, 4).refused(Check.NO_SUCH, call, 0, -1);
            T.refused(Check.NO_SUCH, call, 1, 0).refused(Check.NO_SUCH, call, -1, 1);
            T.refused(Check.ARGUMENT, call, 0, 1).refused(Check.ARGUMENT, call, 0, 2);
            T.refused(call.equals("other") ? "7" : Check.ARGUMENT, call, 0, 3);
            for (long v : new long[] {10, -2, 100, 1L << 32, Long.MIN_VALUE, Long.MAX_VALUE, -1L << 32}) {
                T.row(1, 3, 0, v).refused(Check.ARGUMENT, call, 0, 1);
                T.row(1, 3, v, 0).refused(Check.ARGUMENT, call, 0, 1);
            }
            T.row(1, 3, 9).refused(call.equals("look") ? "-1" : "0", call, 0, 1);
        }
    }
}
