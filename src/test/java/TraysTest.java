/** Promises 40 to 45: trays, told ways, images and what is counted. */
public final class TraysTest {
    private static final Check T = new Check();
    /** A row of five places, 0 to 4, with rocks below it. */
    private static final String ROW = "island 5 2; rock 0 1; rock 1 1; rock 2 1; rock 3 1; rock 4 1;";

    public static void main(String[] args) {
        tray();
        write();
        copy();
        copyWrong();
        image();
        imageKeepsNot();
        restoreWrong();
        count();
        Check.end();
    }

    private static void tray() {
        T.promise("40 tray");
        T.refused(Check.NO_SUCH, "tray", 4, 0, 0).refused(Check.NO_SUCH, "tray", -1, 9, 99);
        T.refused(Check.ARGUMENT, "tray", 0, 4, 0).refused(Check.ARGUMENT, "tray", 0, -1, 0);
        T.refused(Check.ARGUMENT, "tray", 0, 0, 31).refused(Check.ARGUMENT, "tray", 3, 3, -1);
        T.due(Check.STATE, "judge", 0, 0).due("null", "tray", 0, 0, 0).due(-1, "judge", 0, 0).due(0, "perform", 0);
        T.due(Check.STATE, "judge", 3, 0).due("null", "tray", 3, 3, 30).due(7, "write", 3, 29, 7).due(Check.INDEX, "write", 3, 30, 7);
        // Anew it is a row of 0s again, though it was written to.
        T.face.tell("island 2 2; pair 9 at 0 0 and 0 0;");
        T.due("null", "tray", 1, 1, 3);
        for (int i = 0; i < 3; i++) {
            T.due(-1, "write", 1, i, -1);
        }
        T.due(3, "perform", 1).due("null", "tray", 1, 1, 2).due(2, "perform", 1).due(5, "count", 6).due(0, "write", 1, 0, 0);
        T.due(7, "write", 1, 1, 7).due(1, "judge", 1, 0).due("null", "tray", 1, 0, 30).due(-1, "judge", 1, 0);
        T.due(30, "perform", 1).due(35, "count", 6);
        // A call that is refused leaves the row as it was.
        T.row(2, 2, 400).due(0, "judge", 2, 0).due(Check.ARGUMENT, "tray", 2, 2, 31).due(Check.ARGUMENT, "tray", 2, 4, 3);
        T.due(0, "judge", 2, 0).due(Check.INDEX, "write", 2, 1, 0);
    }

    private static void write() {
        T.promise("41 write");
        long[] told = {0, 1, -1, 127, 128, 255, 256, 32767, 32768, 65536 + 7, 1L << 31, -1L << 31, (1L << 31) - 1,
            (1L << 32) + 5, Long.MAX_VALUE, Long.MIN_VALUE, -129, -32769};
        for (int sort = 0; sort < 4; sort++) {
            T.due("null", "tray", sort, sort, 2);
            for (long v : told) {
                long cut = sort == 0 ? (byte) v : sort == 1 ? (short) v : sort == 2 ? (int) v : v;
                T.due(cut, "write", sort, 0, v).due(cut, "write", sort, 1, v);
            }
        }
        T.refused(Check.INDEX, "write", 0, 2, 0).refused(Check.INDEX, "write", 0, -1, 0);
        T.refused(Check.NO_SUCH, "write", 4, 0, 0).refused(Check.NO_SUCH, "write", -1, -1, 0);
        T.promise("41 write to none").refused(Check.STATE, "write", 0, 0, 0).refused(Check.STATE, "write", 3, -1, 0);
        T.row(0, 0).refused(Check.INDEX, "write", 0, 0, 0);
        // It is the number as it is there that a deed is told by: 1000 cut to 8 bits is -24.
        T.face.tell("island 2 2; pair 9 at 0 0 and 0 0;");
        T.row(0, 0, 1000).due(1, "judge", 0, 1).row(0, 1, 1000).due(0, "judge", 0, 1);
        T.row(0, 0, 256 + 22).due(0, "judge", 0, 1).due(1, "perform", 0).due(1, "pair", 0, 2);
    }

    private static void copy() {
        T.on("42 copy", ROW + "pair 2 at 0 0 and 0 0; pair 2 at 0 0 and 1 0;");
        T.row(0, 1, 2009, 2008, 2007, 2006, 2005, 2004);
        T.due(4, "copy", 0, 1, 4, 3).due(6, "perform", 0).due(4, "pair", 1, 2).due(3, "pair", 1, 3).due(4, "count", 6);
        // The others in the tray are as they were, behind.
        T.row(1, 1, 2009, 2009, 2009, -1, 2005, -1).due(2, "copy", 1, 1, 2, 1).due(6, "perform", 1).due(5, "count", 7);
        T.due(2, "pair", 1, 2).due(1, "pair", 1, 3).due(8, "count", 6);
        // Where the tray is too short: as many as it has places; and 8 bits cut 102 not, but 1xx ones above 127.
        T.row(2, 2, 0).due(1, "copy", 2, 1, 0, 0).due(-1, "judge", 2, 0).row(2, 2).due(0, "copy", 2, 1, 0, 0);
        T.due(0, "copy", 1, 1, 2, 1).row(2, 2, 5).due(0, "copy", 2, 1, 2, 1).due(0, "judge", 2, 0);
        T.row(3, 0, 0, 0, 0).due(2, "copy", 3, 1, 0, 0).due(1, "judge", 3, 1).row(3, 0, 0).due(1, "copy", 3, 0, 1, 1);
        T.due(0, "judge", 3, 1).due(1, "perform", 3).due(1, "pair", 0, 2).due(1, "pair", 0, 3);
        // There is no way: nothing changes.
        T.row(0, 1, -1, 400).due(1, "judge", 0, 0).refused("-1", "copy", 0, 1, 4, 1).due(1, "judge", 0, 0);
        T.refused("-1", "copy", 0, 1, 5, 1);
    }

    private static void copyWrong() {
        T.on("42 wrong copies", ROW + "pair 2 at 0 0 and 0 0;").row(1, 1, 0);
        T.refused(Check.STATE, "copy", 0, 0, 0, 0).refused(Check.NO_SUCH, "copy", 4, 0, 0, 0);
        T.refused(Check.NO_SUCH, "copy", -1, 0, 0, 0).refused(Check.NO_SUCH, "copy", 0, 1, 0, 0);
        T.refused(Check.NO_SUCH, "copy", 0, -1, 0, 0).refused(Check.NO_SUCH, "copy", 0, 0, 10, 0);
        T.refused(Check.NO_SUCH, "copy", 0, 0, 0, 10).refused(Check.NO_SUCH, "copy", 0, 0, -1, 0);
        T.refused(Check.NO_SUCH, "copy", 1, 0, 0, -1).refused(Check.STATE, "copy", 2, 0, 9, 9);
        T.refused(Check.STATE, "copy", 3, 0, 4, 3);
    }

    private static void image() {
        T.on("43, 44 image", "island 3 2; rock 1 1; house 0 0; pair 2 at 0 0 and 1 0; pair 1 at 2 0 and 2 1; hour 5;"
                + "length: rope - rain; may: x < 2 or hour = 7;");
        String first = T.face.state();
        T.due(0, "step", 0, 2, 0).due(2, "tie", 0, 9).due(2, "rain", 8, 2).due("null", "image", 1);
        String then = T.face.state();
        long ways = Long.parseLong(T.face.call("ways", 0, 1, 1, 3));
        T.due(2, "hours", 1).due(2, "undo", 2).due(0, "step", 0, 0, 0).due("null", "image", 0);
        String later = T.face.state();
        T.due("null", "restore", 1).same("44 the state restored", then, T.face.state()).due(ways, "ways", 0, 1, 1, 3);
        // The deeds of then can be undone, those since can't; an image can be gone back to again and again.
        T.due(3, "count", 9).due(2, "undo", 1).due(0, "undo", 2).due(5, "count", 6).due(0, "pair", 0, 2);
        T.due("null", "restore", 1).same("44 the state restored again", then, T.face.state());
        for (int i = 1; i <= 12; i++) {
            T.face.call("tie", 1, i % 10);
        }
        T.due("null", "restore", 1).due(0, "undo", 3).same("44 the first state, undone", first, T.face.state());
        T.due("null", "restore", 0).same("44 the other state", later, T.face.state());
        // Another island does not touch the images; they bring back the old one, with its laws.
        T.same("44 another island", "2", T.face.tell("island 5 5; length: 0;"));
        T.due(Check.NO_SUCH, "pair", 0, 0).due("null", "restore", 1).same("44 the old island", then, T.face.state());
        T.due("false", "may", 0, 0, 2, 0).due("true", "may", 0, 0, 2, 1).due("true", "may", 0, 0, 3, 0);
        // A later image strikes the one before it.
        T.due("null", "restore", 0).due("null", "image", 1).due("null", "restore", 1);
        T.same("43 a later image", later, T.face.state());
        // All ten deeds that can be undone are of the image, wherever the eldest of them lies.
        for (int deeds = 10; deeds < 20; deeds++) {
            T.on("44 deeds of an image", "island 2 2; pair 9 at 0 0 and 0 0;");
            for (int i = 0; i < deeds; i++) {
                T.face.call("hours", 1);
            }
            T.due("null", "image", 2);
            for (int i = 0; i < 15; i++) {
                T.face.call("tie", 0, 9);
            }
            T.due("null", "restore", 2).due(deeds, "count", 6);
            for (int i = 9; i >= 0; i--) {
                T.due(i, "undo", 1).due(deeds - 10 + i, "count", 6).due(0, "pair", 0, 1);
            }
        }
        T.promise("43 an image of a new object").due("null", "image", 2);
        T.same("43 a new object", "2", T.face.tell("island 5 5; hour 9;"));
        T.due(0, "hours", 2).due("null", "restore", 2).due(0, "count", 0).due(0, "count", 1).due(0, "count", 6);
        T.due(0, "count", 9).due(Check.NO_SUCH, "place", 0);
    }

    /** The tape, the fault and the trays are as they are, not as they were. */
    private static void imageKeepsNot() {
        T.on("43, 44 what an image keeps not", "island 2 2; hour 3;");
        T.due("null", "image", 0).row(0, 1, 400).due(20, "feed", 0, 0, 0, 0, 0);
        T.due("null", "restore", 0).due(20, "count", 10).due(0, "judge", 0, 0).due(0, "fault", 0);
        T.due(-11, "island", 1).due(1, "fault", 0).due("null", "restore", 0).due(1, "fault", 0).due(0, "fault", 1);
        T.due("null", "image", 0).row(0, 1, -1, -1).row(2, 2).due("null", "restore", 0).due(2, "perform", 0);
        T.due(0, "perform", 2).due(5, "count", 6).due(2, "count", 9).due("null", "restore", 0).due(0, "count", 9);
        T.due(3, "count", 6);
    }

    private static void restoreWrong() {
        T.on("43, 44 wrong images", "island 2 2; pair 9 at 0 0 and 1 1;").due(1, "tie", 0, 8).due(2, "tie", 0, 7);
        for (int i = 0; i < 3; i++) {
            T.refused(Check.STATE, "restore", i);
        }
        for (String call : new String[] {"image", "restore"}) {
            T.refused(Check.NO_SUCH, call, 3).refused(Check.NO_SUCH, call, -1);
            T.refused(Check.NO_SUCH, call, Integer.MIN_VALUE).refused(Check.NO_SUCH, call, Integer.MAX_VALUE);
        }
        T.due("null", "image", 1).refused(Check.STATE, "restore", 0).refused(Check.STATE, "restore", 2);
        // An image changes nothing but that it is there, and to go back to what is, nothing.
        T.due("null", "image", 2).refused("null", "image", 2).refused("null", "restore", 2).refused("null", "restore", 1);
    }

    private static void count() {
        T.on("45 count", "island 4 3; rock 0 0; rock 0 0; rock 1 0; house 2 0; house 3 0; house 0 1; pair 1 at 0 2 and 3 2;"
                + "pair 1 at 0 2 and 0 2; pair 2 at 0 2 and 3 2; pair 9 at 0 2 and 3 2; hour 77; rain 6 for 3;");
        long[] due = {13, 4, 3, 4, 3, 2, 77, 6, 0, 0, 0};
        for (int what = 0; what <= 10; what++) {
            T.due(due[what], "count", what);
        }
        T.due(5, "hours", 2).due(20, "feed", 1, 2, 3, 4, 5).due(9, "tie", 3, 0);
        long[] then = {13, 4, 3, 4, 3, 2, 79, 6, 2, 2, 20};
        for (int what = 0; what <= 10; what++) {
            T.due(then[what], "count", what);
        }
        T.due(0, "hours", 1).due(0, "count", 7).due(-1, "count", 11).due(-1, "count", -1);
        T.due(-1, "count", Integer.MIN_VALUE).due(-1, "count", Integer.MAX_VALUE);
    }
}

