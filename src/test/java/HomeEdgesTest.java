/** Promises 34 to 39 at their edges: none to eight houses for none to four pairs; what was seen, 1 to 20 numbers. */
public final class HomeEdgesTest {
    private static final Check T = new Check();
    /** A row of five places, 0 to 4, with rocks below it. */
    private static final String ROW = "island 5 2; rock 0 1; rock 1 1; rock 2 1; rock 3 1; rock 4 1;";
    private static final String[] WATCHED = {"other", "fits", "look"};

    public static void main(String[] args) {
        manyHouses();
        byLength();
        byLengthNow();
        partedOnes();
        shortestWhat();
        shortestFromNow();
        shortestFirst();
        shortestFarthest();
        dear();
        othersBounds();
        otherInTwenty();
        seenMany();
        seenPlaces();
        seenSorts();
        fitsFull();
        fitsByRope();
        lookEven();
        lookFirst();
        lookNone();
        Check.end();
    }

    private static String houses(int many) {
        StringBuilder all = new StringBuilder("island 4 2;");
        for (int h = 0; h < many; h++) {
            all.append("house ").append(h % 4).append(' ').append(h / 4).append(';');
        }
        return all.toString();
    }

    /** 34, 36: none to eight houses, all PAIRS have two each, all unlike; one way without PAIRS. */
    private static void manyHouses() {
        for (int pairs = 0; pairs <= 4; pairs++) {
            for (int many = 0; many <= 8; many++) {
                T.on("34 " + many + " houses for pairs " + pairs, houses(many) + "pair 20 at 0 0 and 0 0;".repeat(pairs));
                int ways = 1;
                for (int i = 0; i < 2 * pairs; i++) {
                    ways *= Math.max(0, many - i);
                }
                T.refused(String.valueOf(ways), "housed");
                T.refused(String.valueOf(pairs > 0 && many == 2 * pairs ? (1 << many) - 1 : 0), "dear");
                // All at the corner: the nearest houses are those of the least x and y.
                int[] far = {0, 1, 2, 3, 1, 2, 3, 4};
                int[] near = java.util.Arrays.copyOf(far, many);
                java.util.Arrays.sort(near);
                int least = 0;
                for (int i = 0; i < 2 * pairs && i < many; i++) {
                    least += near[i];
                }
                T.refused(String.valueOf(many < 2 * pairs ? -1 : least), "shortest", 0);
            }
        }
    }

    /** 34: APART by LENGTH at most. */
    private static void byLength() {
        for (int far = 1; far <= 8; far++) {
            for (int length = 0; length <= 9; length++) {
                T.on("34 houses apart by " + far + ", a rope of " + length, "island 5 5; house 0 0; house " + Math.min(4, far) + " "
                        + Math.max(0, far - 4) + "; pair 20 at 0 0 and 0 0; length: " + length + ";");
                boolean can = far <= length;
                T.due(can ? 2 : 0, "housed").due(can ? 3 : 0, "dear").due(can ? far : -1, "shortest", 0);
                T.due(can ? 0 : -1, "shortest", 10).due(can ? 1 : -1, "shortest", 11).due(-1, "shortest", 12);
            }
        }
    }

    /** 34: by LENGTH now, neither the one before nor the coming one; each PAIR by its own. */
    private static void byLengthNow() {
        T.on("34 length now", "island 5 2; house 0 0; house 3 0; pair 20 at 0 0 and 0 0; hour 2; length: hour;");
        T.due(0, "housed").due(-1, "shortest", 0).due(0, "hours", 1).due(2, "housed").due(0, "hours", 20).due(2, "housed");
        T.due(23, "count", 6).due(0, "hours", 1).due(0, "housed").due(0, "dear").due(2, "undo", 1).due(2, "housed");
        T.on("34 length now", "island 5 2; house 0 0; house 3 0; pair 20 at 0 0 and 0 0; hour 4; length: 7 - hour;");
        T.due(2, "housed").due(0, "hours", 1).due(0, "housed");
        T.on("34 length in rain", "island 5 2; house 0 0; house 3 0; pair 20 at 0 0 and 0 0; rain 1 for 1; length: 3 - rain;");
        T.due(0, "housed").due(0, "hours", 1).due(2, "housed").due(0, "rain", 2, 99).due(0, "housed").due(0, "rain", 0, 99);
        T.due(2, "housed");
    }

    /** 34, 35: PARTED ones are housed, too, however far APART. */
    private static void partedOnes() {
        String two = "pair 1 at 0 0 and 4 4; pair 1 at 2 2 and 2 2;";
        T.on("34 parted ones", "island 5 5; house 0 0; house 4 4; house 0 2; house 0 3;" + two);
        T.due(0, "housed").due(0, "dear").due(-1, "shortest", 0).due(1, "hours", 1);
        // Pair 1 is next door in 2 and 3 alone, pair 0 in those that are left.
        T.due(4, "housed").due(15, "dear").due(0 + 0 + 2 + 3, "shortest", 0).due(0, "shortest", 10).due(1, "shortest", 11);
        T.due(2, "shortest", 12).due(3, "shortest", 13).due(-1, "shortest", 14).due(0, "undo", 1).due(0, "housed");
        T.on("34 parted ones, a house too few", "island 5 5; house 0 0; house 4 4; house 0 3;" + two);
        T.due(1, "hours", 1).due(0, "housed").due(0, "dear").due(-1, "shortest", 0).due(-1, "shortest", 10);
    }

    /** 35: what 0, 10 to 17. */
    private static void shortestWhat() {
        for (int pairs = 0; pairs <= 4; pairs++) {
            T.on("35 shortest, pairs " + pairs, houses(8) + "pair 20 at 0 0 and 1 0;".repeat(pairs));
            int last = 2 * pairs - 1;
            for (int i = 0; i < 8; i++) {
                String got = T.face.call("shortest", 10 + i);
                if (i <= last == got.equals("-1")) {
                    T.report("person " + i + " has the house " + got);
                }
            }
            for (int what : new int[] {-1, 1, 2, 8, 9, 18, 19, 20, 100, Integer.MIN_VALUE, Integer.MAX_VALUE}) {
                T.refused(Check.ARGUMENT, "shortest", what);
            }
        }
        T.on("35 shortest, no way", houses(1) + "pair 20 at 0 0 and 1 0;").due(-1, "shortest", 0);
        T.edges(Check.ARGUMENT, "shortest", 0, 10, 17, "-1 -1 -1 -1", 0);
        T.on("35 shortest of all eight", "island 5 5; house 4 4; house 0 4; house 4 0; house 0 0; house 2 2; house 2 3; house 3 2; house 2 1;"
                + "pair 20 at 2 1 and 3 2; pair 20 at 2 3 and 2 2; pair 20 at 0 0 and 4 0; pair 20 at 0 4 and 4 4;");
        T.edges(Check.ARGUMENT, "shortest", 0, 10, 17, "7 6 1 0", 0).due(0, "shortest", 0).due(5, "shortest", 12);
        T.due(4, "shortest", 13).due(3, "shortest", 14).due(2, "shortest", 15);
    }

    /** 35: from where they are now. */
    private static void shortestFromNow() {
        T.on("35 shortest from now", "island 5 2; house 0 0; house 1 0; pair 20 at 0 0 and 1 0;").due(0, "shortest", 0);
        T.due(2, "step", 0, 0, 2).due(1, "shortest", 0).due(1, "step", 0, 2, 0).due(2, "shortest", 0).due(0, "shortest", 10);
        T.due(1, "step", 0, 2, 2).due(0, "step", 0, 2, 0).due(3 + 2, "shortest", 0).due(0, "shortest", 10).due(1, "shortest", 11);
        T.due(2, "undo", 2).due(2, "shortest", 0);
    }

    /** 35: of like ones the first, by the house of person 0, then of person 1, and so on. */
    private static void shortestFirst() {
        String isle = "island 5 2; house 0 0; house 2 0; house 0 1; house 2 1;";
        T.on("35 the first way", isle + "pair 20 at 1 0 and 1 0; pair 20 at 1 1 and 1 1;");
        long[] due = {4, 0, 1, 2, 3};
        for (int i = 0; i <= 4; i++) {
            T.due(due[i], "shortest", i == 0 ? 0 : 9 + i);
        }
        // Told the other way round: the houses' numbers, not their places, tell which is first.
        T.on("35 the first way", "island 5 2; house 2 1; house 0 1; house 2 0; house 0 0; pair 20 at 1 0 and 1 0; pair 20 at 1 1 and 1 1;");
        long[] then = {4, 2, 3, 0, 1};
        for (int i = 0; i <= 4; i++) {
            T.due(then[i], "shortest", i == 0 ? 0 : 9 + i);
        }
        // The first's least house takes the second's: of like ones in all that is the first all the same.
        T.on("35 the first way", "island 5 2; house 1 0; house 2 0; house 3 0; pair 20 at 1 0 and 0 0;");
        T.due(2, "shortest", 0).due(0, "shortest", 10).due(1, "shortest", 11);
        T.on("35 the first way", "island 5 2; house 1 0; house 2 0; house 3 0; pair 20 at 2 0 and 2 0; length: 1;");
        T.due(1, "shortest", 0).due(0, "shortest", 10).due(1, "shortest", 11);
        T.on("35 the first way", "island 5 2; house 1 0; house 4 0; house 2 0; pair 20 at 2 0 and 2 0; length: 1;");
        T.due(1, "shortest", 0).due(0, "shortest", 10).due(2, "shortest", 11);
    }

    private static void shortestFarthest() {
        String far = "house 4 4; house 3 4; house 4 3; house 2 4; house 3 3; house 4 2; house 1 4; house 4 1;";
        T.on("35 shortest, the farthest", "island 5 5;" + far + "pair 20 at 0 0 and 0 0;".repeat(4));
        T.due(8 + 7 + 7 + 6 + 6 + 6 + 5 + 5, "shortest", 0);
        for (int i = 0; i < 8; i++) {
            T.due(i, "shortest", 10 + i);
        }
    }

    /** 36: houses 0 to 7, as bits. */
    private static void dear() {
        // Four houses beside the middle one, three that stand alone.
        int[] spots = {1, 5, 7, 11, 24, 14, 22};
        for (int k = 0; k <= 7; k++) {
            StringBuilder text = new StringBuilder("island 5 5; pair 1 at 0 0 and 0 0;");
            for (int i = 0; i <= 7; i++) {
                int at = i == k ? 6 : spots[i < k ? i : i - 1];
                text.append("house ").append(at % 5).append(' ').append(at / 5).append(';');
            }
            T.on("36 dear, the middle told as " + k, text.toString()).refused("8", "housed").refused(String.valueOf(1 << k), "dear");
        }
        T.on("36 dear, none of three", "island 2 2; house 0 0; house 1 0; house 0 1; pair 2 at 0 0 and 0 0;").due(6, "housed").due(0, "dear");
        T.due(1, "tie", 0, 1).due(4, "housed").due(1, "dear").due(0, "tie", 0, 2).due(0, "housed").due(0, "dear");
    }

    /** 37 to 39: the PAIR ahead of the TRAY, that ahead of what is in it. */
    private static void othersBounds() {
        for (String call : WATCHED) {
            T.on("37 to 39 " + call, ROW + "pair 20 at 0 0 and 0 0; pair 20 at 0 0 and 4 0; pair 20 at 2 0 and 3 0; may: who = 1;");
            T.row(0, 1, 0).row(1, 3, -1).row(2, 0);
            String[] pairs = {"3 24 24 28", "2 2 2 3", "0 3 3 2"};
            int i = call.equals("other") ? 0 : call.equals("fits") ? 1 : 2;
            T.edges(Check.NO_SUCH, call, 0, 0, 2, pairs[i], 0, 1);
            String[] trays = {"3 3 ", "2 2 ", "0 0 "};
            T.edges(Check.NO_SUCH, call, 1, 0, 3, trays[i] + Check.ARGUMENT + " " + Check.STATE, 0, 0);
            T.refused(Check.NO_SUCH, call, 3, 3).refused(Check.NO_SUCH, call, -1, 2).refused(Check.NO_SUCH, call, 3, 2);
            T.refused(Check.STATE, call, 0, 3).refused(Check.ARGUMENT, call, 0, 2).refused(Check.NO_SUCH, call, 3, -1);
            T.on("37 to 39 without pairs", ROW).row(0, 1, 0).refused(Check.NO_SUCH, call, 0, 0).refused(Check.NO_SUCH, call, 0, 1);
        }
    }

    /** 37: in 1 to 20 HOURS, the last of them too. */
    private static void otherInTwenty() {
        for (int n : new int[] {1, 2, 3, 18, 19, 20}) {
            long[] unseen = new long[n];
            java.util.Arrays.fill(unseen, -1);
            T.on("37 other in " + n, ROW + "pair 20 at 0 0 and 0 0; may: rain = 0; rain 1 for " + n + ";").row(0, 0, unseen);
            // From the last of the HOURS on they may go, not before.
            T.due(3, "other", 0, 0);
            T.on("37 other in " + n, ROW + "pair 20 at 0 0 and 0 0; may: rain = 0; rain 1 for " + (n + 1) + ";").row(0, 0, unseen);
            T.due(1, "other", 0, 0);
            unseen[n - 1] = 1;
            T.row(0, 0, unseen).due(0, "other", 0, 0);
            T.on("37 other in " + n, ROW + "pair 1 at 0 0 and 1 0; may: who = 1;").row(0, 0, new long[n]).due(3, "other", 0, 0);
        }
        // This HOUR is aside: where the first is now isn't asked.
        T.on("37 other, this hour aside", ROW + "pair 1 at 0 0 and 0 0;").row(0, 1, 1).due(3, "other", 0, 0).row(0, 1, 1, 2);
        T.due(6, "other", 0, 0).row(0, 1, 2).due(0, "other", 0, 0).row(0, 1, 0, 1).due(7, "other", 0, 0);
    }

    /** 37: 1 to 20 numbers; 38, 39: 8 at most. */
    private static void seenMany() {
        for (String call : WATCHED) {
            for (int many = 0; many <= 30; many++) {
                T.on("37 to 39 " + call + " of so many: " + many, ROW + "pair 20 at 0 0 and 0 0; may: pair = 1;").row(0, 1, new long[many]);
                if (many < 1 || many > (call.equals("other") ? 20 : 8)) {
                    T.refused(Check.ARGUMENT, call, 0, 0);
                } else {
                    T.refused(call.equals("look") ? "0" : "1", call, 0, 0);
                }
            }
        }
    }

    /** 37 to 39: PLACES or NONE, each of them. */
    private static void seenPlaces() {
        for (String isle : new String[] {"island 2 2;", "island 5 5;", "island 3 2;"}) {
            int places = (isle.charAt(7) - '0') * (isle.charAt(9) - '0');
            long[] never = {-2, -3, places, places + 1, 25, 26, 100, 100 + places - 1, -100, Integer.MIN_VALUE, Integer.MAX_VALUE,
                Long.MIN_VALUE, Long.MAX_VALUE, 1L << 32, (1L << 32) - 1, -(1L << 32), -(1L << 32) - 1, (1L << 63) + 1};
            for (String call : WATCHED) {
                for (long v : never) {
                    for (int at = 0; at < 3; at++) {
                        // Not only where they could have been: the first is nowhere near the last place.
                        long[] row = {-1, places - 1, 0};
                        row[at] = v;
                        T.on("37 to 39 no place " + v, isle + "pair 20 at 0 0 and 0 0; may: 1 = 2;").row(0, 3, row);
                        T.refused(Check.ARGUMENT, call, 0, 0);
                    }
                }
                for (long v : new long[] {-1, 0, 1, places - 2, places - 1}) {
                    T.on("37 to 39 a place " + v, isle + "pair 20 at 0 0 and 0 0; may: 1 = 2;").row(0, 3, v);
                    T.refused(v > 0 ? call.equals("look") ? "-1" : "0" : call.equals("look") ? "0" : "1", call, 0, 0);
                }
            }
        }
    }

    /** 37 to 39: a number as it is there, cut to its sort. */
    private static void seenSorts() {
        long[][] wraps = {{255, 256, 257, 256 + 5}, {65535, 65536, 65537, 65536 + 5}, {(1L << 32) - 1, 1L << 32, (1L << 32) + 1, (1L << 32) + 5}};
        for (int sort = 0; sort < 3; sort++) {
            T.on("37 seen in bits of the sort " + sort, ROW + "pair 20 at 0 0 and 0 0; may: who = 0;");
            T.row(0, sort, wraps[sort][0]).due(1, "other", 0, 0).due(2, "fits", 0, 0).row(0, sort, wraps[sort][1]).due(1, "fits", 0, 0);
            T.row(0, sort, wraps[sort][2]).due(1, "fits", 0, 0).row(0, sort, wraps[sort][3]).due(0, "fits", 0, 0).due(-1, "look", 0, 0);
            for (long v : wraps[sort]) {
                T.row(0, 3, v).refused(Check.ARGUMENT, "fits", 0, 0);
            }
        }
    }

    /** 38: as many as can be, by 1 to 8 numbers. */
    private static void fitsFull() {
        T.on("38 fits, two by two", "island 2 2; pair 20 at 0 0 and 1 1; pair 1 at 0 0 and 0 0; pair 1 at 1 0 and 0 1;");
        long all = 1;
        long one = 1;
        for (int n = 1; n <= 8; n++) {
            all *= 9;
            one *= 3;
            long[] row = new long[n];
            // Seen where it was, the first has one way alone.
            T.row(0, 0, row).due(one, "fits", 0, 0);
            java.util.Arrays.fill(row, -1);
            T.row(0, 0, row).due(all, "fits", 0, 0);
        }
        // Two apart by a rope of 1: of their nine ways these six hold; PARTED they go as they like.
        T.row(0, 0, -1).due(6, "fits", 2, 0).row(0, 0, -1, -1, -1, -1, -1, -1, -1, -1);
        T.due(4, "hours", 1).due(all, "fits", 2, 0);
        T.on("38 fits, the most", "island 5 5; pair 20 at 2 2 and 2 2;").row(0, 1, -1, -1, -1, -1, -1, -1, -1, -1);
        long walks = walks(12, 8);
        T.due(walks * walks, "fits", 0, 0);
    }

    /** In how many ways one alone goes on five by five for so many HOURS. */
    private static long walks(int from, int hours) {
        long[] now = new long[25];
        now[from] = 1;
        for (int n = 0; n < hours; n++) {
            long[] next = new long[25];
            for (int k = 0; k < 25; k++) {
                for (int i = 0; i < 25; i++) {
                    next[i] += Math.abs(i % 5 - k % 5) + Math.abs(i / 5 - k / 5) <= 1 ? now[k] : 0;
                }
            }
            now = next;
        }
        long all = 0;
        for (long many : now) {
            all += many;
        }
        return all;
    }

    /** 38: in each HOUR by LENGTH then, at most. */
    private static void fitsByRope() {
        for (int length = 0; length <= 5; length++) {
            // The first is held at 0: the second goes along the row, to length at most.
            T.on("38 fits by a rope of " + length, ROW + "pair 20 at 0 0 and 0 0; may: who = 1; length: " + length + ";");
            long[] now = {1, 0, 0, 0, 0};
            for (int n = 1; n <= 8; n++) {
                long[] next = new long[5];
                long all = 0;
                int bits = 0;
                for (int k = 0; k <= Math.min(4, length); k++) {
                    next[k] = now[k] + (k > 0 ? now[k - 1] : 0) + (k < 4 ? now[k + 1] : 0);
                    all += next[k];
                    bits |= next[k] > 0 ? 1 << k : 0;
                }
                now = next;
                T.row(0, 0, new long[n]).due(all, "fits", 0, 0).due(bits, "other", 0, 0).due(mostEven(now), "look", 0, 0);
            }
        }
    }

    private static int mostEven(long[] ways) {
        long all = 0;
        for (long many : ways) {
            all += many;
        }
        int best = 0;
        for (int k = 1; k < ways.length; k++) {
            best = Math.min(ways[k], all - ways[k]) > Math.min(ways[best], all - ways[best]) ? k : best;
        }
        return best;
    }

    /** 39: the most even one, not the one of the most ways. */
    private static void lookEven() {
        // In the first HOUR it may go to 0, from then on to 1 alone: of the n ways all but one end at 1.
        T.on("39 look, most even", ROW + "pair 20 at 4 0 and 1 0; may: who = 1 and [hour = 1 and x = 0 or hour > 1 and x = 1];");
        T.row(0, 0, 4).due(2, "fits", 0, 0).due(0, "look", 0, 0).row(0, 0, 4, 4).due(3, "fits", 0, 0).due(0, "look", 0, 0);
        T.row(0, 0, 4, 4, 4, 4, 4, 4, 4, 4).due(9, "fits", 0, 0).due(0, "look", 0, 0);
        // Two of five at 3, one at 2, two at 4.
        T.on("39 look, most even", ROW + "pair 20 at 0 0 and 4 0; may: who = 1;").row(0, 0, 0).due(3, "look", 0, 0);
        T.row(0, 0, 0, 0).due(5, "fits", 0, 0).due(3, "look", 0, 0);
        for (int from = 0; from <= 4; from++) {
            T.on("39 look from " + from, ROW + "pair 20 at 0 0 and " + from + " 0; may: who = 1;");
            long[] now = new long[5];
            now[from] = 1;
            for (int n = 1; n <= 8; n++) {
                long[] next = new long[5];
                for (int k = 0; k <= 4; k++) {
                    next[k] = now[k] + (k > 0 ? now[k - 1] : 0) + (k < 4 ? now[k + 1] : 0);
                }
                now = next;
                T.row(0, 0, new long[n]).due(mostEven(now), "look", 0, 0);
            }
        }
        // Beside the corner in the first HOUR, back to it in the second: three of the five ways end there.
        T.on("39 look, the last place", "island 5 5; pair 20 at 0 0 and 4 4; may: who = 1 and [hour = 1 and x + y = 7 or hour = 2 and x + y = 8];");
        T.row(0, 0, 0, 0).due(5, "fits", 0, 0).due(24, "look", 0, 0).row(0, 0, 0).due(3, "fits", 0, 0).due(19, "look", 0, 0);
    }

    /** 39: of like ones the first. */
    private static void lookFirst() {
        for (int from = 0; from < 9; from++) {
            int x = from % 3;
            int y = from / 3;
            T.on("39 look, the first of like ones", "island 3 3; pair 20 at 0 0 and " + x + " " + y + "; may: who = 1;");
            int first = y > 0 ? from - 3 : x > 0 ? from - 1 : from;
            T.row(0, 0, 0).due(first, "look", 0, 0);
        }
    }

    /** 39: NONE: no way fits; where all ways end at one place all are alike. */
    private static void lookNone() {
        T.on("39 look, no way fits", ROW + "pair 20 at 0 0 and 0 0;").row(0, 0, 2).due(-1, "look", 0, 0).due(0, "fits", 0, 0);
        T.row(0, 0, 0, 5).due(-1, "look", 0, 0).row(0, 0, 0, -1, 4).due(-1, "look", 0, 0).row(0, 0, 1).due(0, "look", 0, 0);
        T.on("39 look, no way on", ROW + "pair 1 at 0 0 and 4 0;").row(0, 0, -1).due(-1, "look", 0, 0).due(0, "other", 0, 0);
        T.due(1, "hours", 1).due(3, "look", 0, 0).due(24, "other", 0, 0);
        T.on("39 look, all at one place", ROW + "pair 20 at 0 0 and 3 0; may: who = 0;").row(0, 0, -1).due(8, "other", 0, 0);
        T.due(0, "look", 0, 0);
    }
}
