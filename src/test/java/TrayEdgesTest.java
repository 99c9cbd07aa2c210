/** Promises 40 to 45 at their edges: rows of 0 to 30 numbers of 8 to 64 bits, told ways, images, what is counted. */
public final class TrayEdgesTest {
    private static final Check T = new Check();
    /** A row of five places, 0 to 4, with rocks below it. */
    private static final String ROW = "island 5 2; rock 0 1; rock 1 1; rock 2 1; rock 3 1; rock 4 1;";

    public static void main(String[] args) {
        tray();
        rowOfNoughts();
        writePlaces();
        writeBits();
        writtenStays();
        copyBounds();
        copySizes();
        copyForty();
        copyBits();
        copyNone();
        images();
        restoreBounds();
        imageOfAll();
        imageNotOf();
        count();
        countFull();
        Check.end();
    }

    /** 40: TRAYS 0 to 3, sorts 0 to 3, 0 to 30 numbers. */
    private static void tray() {
        T.promise("40 tray").row(1, 1, 7, 8);
        T.edges(Check.NO_SUCH, "tray", 0, 0, 3, "null null null null", 0, 0, 1);
        T.edges(Check.ARGUMENT, "tray", 1, 0, 3, "null null null null", 1, 0, 1);
        T.edges(Check.ARGUMENT, "tray", 2, 0, 30, "null null null null", 1, 0, 0);
        // No such TRAY comes ahead of no such sort, or not so many.
        T.refused(Check.NO_SUCH, "tray", 4, 4, 31).refused(Check.NO_SUCH, "tray", -1, 0, 31).refused(Check.NO_SUCH, "tray", 4, -1, 0);
        T.refused(Check.ARGUMENT, "tray", 3, 4, 31).refused(Check.ARGUMENT, "tray", 0, -1, -1);
    }

    /** 40: so many 0s, whatever was there; none at all is not MISSING. */
    private static void rowOfNoughts() {
        for (int sort = 0; sort < 4; sort++) {
            for (int many : new int[] {0, 1, 2, 29, 30}) {
                T.on("40 a row of " + many, ROW + "pair 20 at 0 0 and 0 0;");
                long[] thirty = new long[30];
                java.util.Arrays.fill(thirty, -2);
                T.row(2, 3, thirty).due(1, "judge", 2, 1);
                T.due("null", "tray", 2, sort, many).due(-1, "judge", 2, 0).due(many, "perform", 2).due(many, "count", 6);
                T.due(Math.min(10, many), "count", 9).refused(Check.INDEX, "write", 2, many, 1).refused(Check.INDEX, "write", 2, -1, 1);
                T.refused(Check.STATE, "write", 1, 0, 1).refused(Check.STATE, "write", 3, 0, 1);
                if (many > 0) {
                    T.due(1, "write", 2, many - 1, 1).due(many - 1, "judge", 2, 0);
                }
                // Without PAIRS 0 can't be done, while NONE could; as what was seen it is the first PLACE.
                T.on("40 a row of " + many + ", without pairs", ROW).due("null", "tray", 2, sort, many).due(0, "perform", 2);
                T.due(many > 0 ? 1 : 0, "judge", 2, 1).due("null", "tray", 2, 3 - sort, many).due(0, "perform", 2);
            }
        }
    }

    /** 41: places from 0 on; the TRAY ahead of its being MISSING, that ahead of the place. */
    private static void writePlaces() {
        for (int many : new int[] {1, 2, 29, 30}) {
            T.promise("41 write to a row of " + many).row(1, 2, new long[many]);
            // Of one place alone the next ones are outside already.
            String inner = many > 1 ? "5 5" : Check.INDEX + " " + Check.INDEX;
            T.edges(Check.INDEX, "write", 1, 0, many - 1, "5 " + inner + " 5", 1, 0, 5);
        }
        T.promise("41 write").row(0, 2, 7);
        T.edges(Check.NO_SUCH, "write", 0, 0, 3, "9 " + Check.STATE + " " + Check.STATE + " " + Check.STATE, 0, 0, 9);
        T.refused(Check.NO_SUCH, "write", 4, 1, 9).refused(Check.NO_SUCH, "write", -1, -1, 9);
        T.refused(Check.STATE, "write", 1, -1, 9).refused(Check.STATE, "write", 3, 30, 9).refused(Check.INDEX, "write", 0, 30, 9);
        T.row(1, 2).refused(Check.INDEX, "write", 1, 0, 9).refused(Check.INDEX, "write", 1, -1, 9);
    }

    /** 41: cut to 8, 16, 32 or 64 bits: the ends of each, and where it wraps around. */
    private static void writeBits() {
        for (int sort = 0; sort < 4; sort++) {
            T.promise("41 write, sort " + sort).row(0, sort, 0);
            int bits = 8 << sort;
            java.math.BigInteger full = java.math.BigInteger.ONE.shiftLeft(bits);
            java.math.BigInteger half = full.shiftRight(1);
            for (int shift = 0; shift < 64; shift++) {
                for (int more = -2; more <= 2; more++) {
                    for (long v : new long[] {(1L << shift) + more, -(1L << shift) + more}) {
                        java.math.BigInteger due = java.math.BigInteger.valueOf(v).add(half).mod(full).subtract(half);
                        if (T.face.calls() > 500) {
                            T.promise("41 write, sort " + sort).row(0, sort, 0);
                        }
                        T.due(due.longValueExact(), "write", 0, 0, v);
                    }
                }
            }
        }
        long[][] told = {{127, 127}, {128, -128}, {129, -127}, {254, -2}, {255, -1}, {256, 0}, {-128, -128}, {-129, 127}, {-256, 0},
            {-257, -1}, {Long.MAX_VALUE, -1}, {Long.MIN_VALUE, 0}};
        T.promise("41 write, 8 bits").row(0, 0, 0);
        for (long[] one : told) {
            T.due(one[1], "write", 0, 0, one[0]);
        }
        long[][] words = {{32767, 32767}, {32768, -32768}, {65535, -1}, {65536, 0}, {-32768, -32768}, {-32769, 32767}, {100000, -31072},
            {Long.MAX_VALUE, -1}, {Long.MIN_VALUE, 0}};
        T.row(0, 1, 0);
        for (long[] one : words) {
            T.due(one[1], "write", 0, 0, one[0]);
        }
        long[][] ints = {{2147483647L, 2147483647L}, {2147483648L, -2147483648L}, {4294967295L, -1}, {4294967296L, 0},
            {-2147483648L, -2147483648L}, {-2147483649L, 2147483647L}, {Long.MAX_VALUE, -1}, {Long.MIN_VALUE, 0}};
        T.row(0, 2, 0);
        for (long[] one : ints) {
            T.due(one[1], "write", 0, 0, one[0]);
        }
        T.row(0, 3, 0).due(Long.MAX_VALUE, "write", 0, 0, Long.MAX_VALUE).due(Long.MIN_VALUE, "write", 0, 0, Long.MIN_VALUE);
    }

    /** 41: a number is where it was written to, and nowhere else. */
    private static void writtenStays() {
        for (int at = 0; at < 30; at++) {
            T.on("41 written at " + at, ROW + "pair 20 at 0 0 and 0 0;");
            for (int t = 0; t < 4; t++) {
                T.due("null", "tray", t, t, 30);
            }
            T.due(99, "write", at % 4, at, 99);
            for (int t = 0; t < 4; t++) {
                T.due(t == at % 4 ? at : -1, "judge", t, 0);
            }
            T.due(0, "write", at % 4, at, 0).due(-1, "judge", at % 4, 0);
        }
    }

    /** 42: the TRAY, the PAIR, the PLACES, then that it is MISSING. */
    private static void copyBounds() {
        T.on("42 copy", ROW + "pair 20 at 0 0 and 0 0; pair 20 at 2 0 and 3 0;").row(0, 1, 7, 7, 7).row(3, 1, 7, 7).row(2, 1);
        T.edges(Check.NO_SUCH, "copy", 0, 0, 3, "3 " + Check.STATE + " 0 2", 0, 0, 3, 1);
        T.edges(Check.NO_SUCH, "copy", 1, 0, 1, "1 2 1 2", 0, 0, 0, 1);
        T.edges(Check.NO_SUCH, "copy", 2, 0, 9, "1 1 -1 -1", 0, 0, 0, 1).edges(Check.NO_SUCH, "copy", 3, 0, 9, "1 1 -1 -1", 0, 0, 1, 0);
        T.refused(Check.NO_SUCH, "copy", 1, 2, 0, 0).refused(Check.NO_SUCH, "copy", 1, 0, 10, 0).refused(Check.NO_SUCH, "copy", 1, 0, 0, -1);
        T.refused(Check.NO_SUCH, "copy", 4, 0, 0, 0).refused(Check.STATE, "copy", 1, 0, 9, 9).refused(Check.STATE, "copy", 1, 0, 0, 0);
        T.refused("0", "copy", 2, 0, 0, 0).refused("0", "copy", 2, 0, 1, 1).refused("0", "copy", 0, 0, 0, 0).refused("-1", "copy", 2, 0, 9, 9);
    }

    /** 42: from the first place on, as many as it has places; what stands behind is as it was. */
    private static void copySizes() {
        for (int many = 0; many <= 7; many++) {
            for (int far = 0; far <= 4; far++) {
                T.on("42 copy of " + far + " into " + many, ROW + "pair 20 at 4 0 and 0 0; pair 20 at 0 0 and 4 0;");
                long[] row = new long[many];
                java.util.Arrays.fill(row, 2007);
                int both = Math.min(many, far);
                T.row(2, 1, row).due(both, "copy", 2, 1, far, 4 - far).due(0, "count", 6).due(0, "count", 9);
                T.due(many, "perform", 2).due(both, "count", 6).due(many > far ? 7 : 0, "count", 7).due(both, "pair", 1, 2);
                T.due(4 - both, "pair", 1, 3).due(4, "pair", 0, 2);
            }
        }
    }

    /** 42: of 40 HOURS 30 places hold 30; one more HOUR is none. */
    private static void copyForty() {
        for (int n = 37; n <= 41; n++) {
            T.on("42 copy, going from the hour " + n + " on", ROW + "pair 20 at 0 0 and 0 0; may: rain = 0; rain 1 for " + n + ";");
            T.row(0, 1, new long[30]).row(1, 1, new long[29]).row(3, 1, 5);
            if (n <= 40) {
                T.due(30, "copy", 0, 0, 1, 0).due(29, "copy", 1, 0, 1, 0).due(1, "copy", 3, 0, 1, 0).due(30, "perform", 0);
                // The rest of it comes into the row as it is asked anew.
                T.due(n - 30, "copy", 0, 0, 1, 0).due(n - 30, "copy", 1, 0, 1, 0).due(29, "perform", 1).due(1, "pair", 0, 2);
            } else {
                T.refused("-1", "copy", 0, 0, 1, 0).refused("-1", "copy", 3, 0, 1, 0);
            }
        }
    }

    /** 42: TOLD DEEDS, 100 times the PAIR, cut to the sort of the TRAY. */
    private static void copyBits() {
        for (int p = 0; p < 4; p++) {
            for (int sort = 0; sort < 4; sort++) {
                T.on("42 copy of pair " + p + ", sort " + sort, "island 3 3;" + "pair 20 at 1 1 and 1 1;".repeat(4));
                T.row(1, sort, 7).due(1, "copy", 1, p, 1, 5);
                // 12, 112, 212, 312: the last two are -44 and 56 in 8 bits, told of no TURN.
                boolean deed = sort > 0 || p < 2;
                T.due(deed ? 0 : 1, "judge", 1, 1).due(deed ? 1 : 0, "perform", 1).due(deed ? 1 : 4, "pair", p, 2);
                T.due(deed ? 5 : 4, "pair", p, 3);
            }
        }
        // 300, both waiting, is 44 in 8 bits: PAIR 0 goes west, both of it.
        T.on("42 copy, wrapped around", "island 3 3;" + "pair 20 at 1 1 and 1 1;".repeat(4) + "may: pair = 0 or hour = 2;");
        T.row(0, 0, 0).due(1, "copy", 0, 3, 1, 5).due(1, "perform", 0).due(3, "pair", 0, 2).due(3, "pair", 0, 3).due(4, "pair", 3, 2);
        // 133, 144 are beyond 127, 122 isn't.
        T.on("42 copy, at the ends of 8 bits", "island 5 5;" + "pair 20 at 2 2 and 2 2;".repeat(2)).row(0, 0, 0);
        T.due(1, "copy", 0, 1, 13, 13).due(0, "judge", 0, 1).due(1, "copy", 0, 1, 17, 13).due(1, "judge", 0, 1);
        T.due(1, "copy", 0, 1, 13, 11).due(0, "judge", 0, 1).due(1, "copy", 0, 1, 11, 11).due(1, "judge", 0, 1);
    }

    /** 42: NONE, and nothing changes: there is no WAY. */
    private static void copyNone() {
        T.on("42 copy of no way", ROW + "pair 1 at 0 0 and 1 0;").row(0, 1, 400, -1, 2009, 7).row(1, 0).row(2, 3, 1, 2, 3);
        for (int t = 0; t < 3; t++) {
            T.refused("-1", "copy", t, 0, 0, 2).refused("-1", "copy", t, 0, 9, 9).refused("-1", "copy", t, 0, 4, 0);
            // Nor where there is nothing to go.
            T.refused("0", "copy", t, 0, 0, 1);
        }
    }

    /** 43: IMAGES 0 to 2. */
    private static void images() {
        T.on("43 images", "island 2 2; pair 9 at 0 0 and 1 1;").due(9, "tie", 0, 0).row(0, 1, 7);
        T.edges(Check.NO_SUCH, "image", 0, 0, 2, "null null null null", 0);
        T.due(8, "tie", 0, 1).due("null", "image", 0).due(7, "tie", 0, 2).due("null", "image", 1).due(6, "tie", 0, 3).due("null", "image", 2);
        T.due(5, "tie", 0, 4).refused(Check.NO_SUCH, "image", 3).refused(Check.NO_SUCH, "image", -1);
        int[] order = {2, 0, 1, 1, 0, 2, 0};
        for (int i : order) {
            T.due("null", "restore", i).due(1 + i, "pair", 0, 1).due(2 + i, "count", 9);
        }
        // Made anew it is the later one; the others are as they were.
        T.due(0, "hours", 5).due("null", "image", 1).due("null", "restore", 2).due(0, "count", 6).due(3, "pair", 0, 1);
        T.due("null", "restore", 1).due(5, "count", 6).due(1, "pair", 0, 1).due("null", "restore", 0).due(0, "count", 6);
    }

    /** 44: no such IMAGE ahead of none made. */
    private static void restoreBounds() {
        for (int made = 0; made < 3; made++) {
            T.on("44 restore, " + made + " made", "island 2 2; hour 4;").due("null", "image", made).due(0, "hours", 1);
            for (int i = 0; i < 3; i++) {
                if (i == made) {
                    Face here = T.face;
                    T.face = here.twin();
                    T.due("null", "restore", i).due(4, "count", 6).due(0, "count", 9);
                    T.face = here;
                } else {
                    T.refused(Check.STATE, "restore", i);
                }
            }
            for (int i : new int[] {-1, 3, 4, Integer.MIN_VALUE, Integer.MAX_VALUE}) {
                T.refused(Check.NO_SUCH, "restore", i).refused(Check.NO_SUCH, "image", i);
            }
        }
        T.promise("44 restore of a new object").refused(Check.STATE, "restore", 0).due("null", "image", 0).refused("null", "restore", 0);
    }

    /** 43: all is as it was: LINES, PLACES, laws, RAIN, KNOTS, who is PARTED, what can be UNDONE. */
    private static void imageOfAll() {
        String[] isles = {"island 3 2; rock 1 1; house 0 0; house 2 1; pair 2 at 0 0 and 1 0; pair 1 at 2 0 and 0 1; hour 5; length: rope - rain;"
                + "may: x < 2 or hour = 7;", "island 5 5; pair 20 at 4 4 and 0 0 knots 9; hour 999; rain 9 for 99;", "island 2 2;"};
        for (int i = 0; i < isles.length; i++) {
            T.on("43 an image of " + isles[i], isles[i]).row(1, 1, 1001, -1, 2003);
            T.face.call("perform", 1);
            T.face.call("hours", 2);
            Face before = T.face.twin();
            T.due("null", "image", 1).row(1, 1, 1001, -1, 2003);
            T.same("another island", "3", T.face.tell("island 4 4; rock 0 0; pair 1 at 3 3 and 2 2;"));
            T.face.call("hours", 50);
            T.due("null", "restore", 1);
            // Alike but for the image itself, which the other is given, too.
            before.call("image", 1);
            T.same("what is there", before.twin().depths(), T.face.twin().depths());
        }
    }

    /** 43: all but the tape, the FAULT and TRAYS. */
    private static void imageNotOf() {
        T.on("43 not of an image", "island 2 2;").due("null", "image", 0).due(20, "feed", 0x20202020, 0x20202020, 0x20202020, 0x20202020, 0x20202023);
        T.due("null", "restore", 0).due(20, "count", 10).due(-11, "island", 20).due(19, "fault", 1).due("null", "restore", 0);
        T.due(1, "fault", 0).due(19, "fault", 1).due(0, "count", 10).row(0, 0, 7).due("null", "image", 0).row(0, 0, 7, -1, 7);
        T.due("null", "restore", 0).due(0, "judge", 0, 0).due(-1, "write", 0, 0, -1).due(2, "judge", 0, 0).refused(Check.STATE, "perform", 1);
        T.row(1, 1).due("null", "image", 2).row(1, 1, -1).due("null", "restore", 2).due(1, "perform", 1);
    }

    /** 45: 0 to 10, no others. */
    private static void count() {
        T.on("45 count", "island 5 4; rock 4 3; house 0 0; house 0 1; pair 1 at 0 0 and 1 1; hour 8; rain 3 for 2;");
        T.due(1, "hours", 1).due(20, "feed", 0, 0, 0, 0, 0).due(0, "tie", 0, 9);
        T.edges("-1", "count", 0, 0, 10, "7 5 2 20", 0);
        long[] due = {7, 5, 4, 1, 2, 1, 9, 3, 1, 2, 20};
        for (int what = 0; what <= 10; what++) {
            T.due(due[what], "count", what);
        }
        T.refused("-1", "count", 12).refused("-1", "count", -2).refused("-1", "count", 100);
    }

    /** 45: nothing, and as many as there can be. */
    private static void countFull() {
        StringBuilder text = new StringBuilder("island 5 5;hour 999;rain 9 for 99;");
        text.append("pair 1 at 4 4 and 0 4;".repeat(4));
        for (int h = 0; h < 8; h++) {
            text.append("house ").append(h % 5).append(' ').append(h / 5).append(';');
        }
        for (int k = 8; k < 20; k++) {
            text.append("rock ").append(k % 5).append(' ').append(k / 5).append(';');
        }
        T.on("45 count, full", text.toString());
        long[] due = {1 + 2 + 4 + 8 + 12, 5, 5, 4, 8, 12, 999, 9, 0, 0, 0};
        for (int what = 0; what <= 10; what++) {
            T.due(due[what], "count", what);
        }
        T.due(15, "hours", 98).due(4, "count", 8).due(9, "count", 7).due(0, "hours", 1).due(0, "count", 7).due(1098, "count", 6);
        for (int i = 3; i <= 12; i++) {
            T.due(0, "rain", 1, 1).due(Math.min(10, i), "count", 9);
        }
        for (int i = 1; i <= 45; i++) {
            T.due(20 * i, "feed", 0, 0, 0, 0, 0).due(20 * i, "count", 10);
        }
        T.due(-1, "feed", 0, 0, 0, 0, 0).due(900, "count", 10);
        // As many LINES as the tape holds: hour 1 takes seven bytes with its sign.
        T.promise("45 count of lines").same("the answer", String.valueOf(1 + 127), T.face.tell("island 2 2;" + "hour 1;".repeat(127)));
        T.due(128, "count", 0).due(1, "count", 6).due(0, "count", 5);
        StringBuilder rocks = new StringBuilder("island 5 5;");
        for (int k = 0; k < 25; k++) {
            rocks.append("rock ").append(k % 5).append(' ').append(k / 5).append(';');
            T.on("45 count of rocks", rocks.toString()).due(k + 1, "count", 5).due(k + 2, "count", 0);
        }
        T.on("45 a rock told twice", "island 2 2; rock 0 0; rock 0 0; rock 0 0;").due(1, "count", 5).due(4, "count", 0);
    }
}
