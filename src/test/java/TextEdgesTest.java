/** Promises 2 to 4 at their edges: the tape, and each bound, sign and word of the island's text. */
public final class TextEdgesTest {
    private static final Check T = new Check();
    private static final String[] WORDS = {"rope", "knots", "rain", "hour", "pair", "x", "y", "who", "island", "rock",
        "house", "at", "and", "length", "may", "for", "or", "not", "z", "a", "xx", "ropes"};

    public static void main(String[] args) {
        tapeBytes();
        tapeFull();
        bytesOfIsland();
        emptyTape();
        afterFault();
        faultWhat();
        sizes();
        spots();
        taken();
        numbers();
        digits();
        oneSign();
        words();
        names();
        many();
        deep();
        deepButElsewhere();
        latestStrikes();
        Check.end();
    }

    private static void right(String text) {
        T.on("3 no fault: " + text, text);
    }

    /** The faulty token is the one behind the mark ^. */
    private static void faulty(int kind, String marked) {
        int place = marked.indexOf('^');
        T.promise("3 faults: " + marked);
        T.same("the answer", String.valueOf(-10 - kind), T.face.tell(marked.replace("^", "")));
        T.due(kind, "fault", 0).due(place, "fault", 1).due(0, "count", 0).due(0, "count", 1).due(0, "count", 10);
    }

    /** 2: each byte of a call, the highest of each int first. */
    private static void tapeBytes() {
        for (int i = 0; i < 20; i++) {
            for (int b : new int[] {0, 9, 127, 128, 255}) {
                T.promise("2 the byte " + b + " at " + i);
                long[] ints = {0x20202020, 0x20202020, 0x20202020, 0x20202020, 0x20202020};
                int shift = 24 - 8 * (i % 4);
                ints[i / 4] = (int) (ints[i / 4] & ~(255 << shift) | b << shift);
                T.due(20, "feed", ints).due(-11, "island", 20).due(i, "fault", 1);
                // Blanks alone, ahead of it: the end is where something else is due.
                T.due(20, "feed", ints).due(-12, "island", i).due(i, "fault", 1);
            }
        }
    }

    /** 2: 900 at most. */
    private static void tapeFull() {
        T.promise("2 the full tape");
        byte[] text = "island 2 2;         ".getBytes();
        T.face.feed(text);
        for (int i = 2; i <= 44; i++) {
            T.due(20 * i, "feed", 0x20202020, 0x20202020, 0x20202020, 0x20202020, 0x20202020);
        }
        T.due(880, "count", 10).due(900, "feed", 0x20202020, 0x20202020, 0x20202020, 0x20202020, 0x686f7572);
        T.refused("-1", "feed", 0, 0, 0, 0, 0).refused("-1", "feed", -1, -1, -1, -1, -1);
        T.due(900, "count", 10).refused(Check.ARGUMENT, "island", 901).due(-12, "island", 900).due(900, "fault", 1);
        // It is empty then, and can be filled again to its end.
        T.due(0, "count", 10).refused(Check.ARGUMENT, "island", 1);
        T.face.feed(text);
        for (int i = 2; i <= 45; i++) {
            T.due(20 * i, "feed", 0x20202020, 0x20202020, 0x20202020, 0x20202020, 0x20202020);
        }
        T.refused("-1", "feed", 0, 0, 0, 0, 0).due(1, "island", 900).due(0, "count", 10);
        T.due(20, "feed", 1, 2, 3, 4, 5);
    }

    /** 3: n bytes, 0 to as many as there are. */
    private static void bytesOfIsland() {
        T.promise("3 island, n");
        T.face.feed("island 2 2;         ".getBytes());
        T.edges(Check.ARGUMENT, "island", 0, 0, 20, "-12 -12 1 1", 0);
        T.promise("3 island, n at the last token");
        T.face.feed("island 2 2;hour 9;  ".getBytes());
        String[] due = {"-12", "-12", "-12", "-12", "-12", "-12", "-12", "-12", "-12", "-12", "-12", "1", "-12", "-12",
            "-12", "-12", "-12", "-12", "2", "2", "2"};
        int[] faultAt = {0, 0, 0, 0, 0, 0, 6, 7, 8, 9, 10, -1, 11, 11, 11, 15, 16, 17, -1, -1, -1};
        Face fed = T.face;
        for (int n = 0; n <= 20; n++) {
            T.face = fed.twin();
            T.due(due[n], "island", n).due(faultAt[n], "fault", 1).due(0, "count", 10);
        }
    }

    /** 3: without anything on the tape. */
    private static void emptyTape() {
        T.promise("3 island, an empty tape");
        T.refused(Check.ARGUMENT, "island", 1).refused(Check.ARGUMENT, "island", -1);
        T.refused(Check.ARGUMENT, "island", Integer.MAX_VALUE).refused(Check.ARGUMENT, "island", Integer.MIN_VALUE);
        T.due(0, "fault", 0).due(-1, "fault", 1).due(-12, "island", 0).due(2, "fault", 0).due(0, "fault", 1);
        // What stands behind the first n bytes is gone, too.
        T.face.feed("island 2 2; island 3 3; island 4 4;     ".getBytes());
        T.due(1, "island", 11).due(0, "count", 10).due(2, "count", 1).refused(Check.ARGUMENT, "island", 1);
        T.due(-12, "island", 0).due(2, "count", 1);
    }

    /** 3: a fault leaves all but the tape and the fault as it was, deeds, images and rows too. */
    private static void afterFault() {
        String text = "island 3 3; rock 2 2; house 0 0; pair 2 at 0 0 and 1 1; pair 1 at 1 0 and 1 2; length: rope + 1 - rain;"
                + "may: x < 2; hour 5; rain 1 for 3;";
        String[] bad = {"", "island 3 3; rock 3 3;", "island 2 2; house 1 1; pair 3 at 0 0 and 0 0; length: 9; may: x = 7; ;",
            "island 5 5; hour 1000;", "island 2 2; length: (((((((1", "rock 0 0;"};
        int[] kinds = {2, 3, 2, 1, 4, 2};
        for (int i = 0; i < bad.length; i++) {
            T.on("3 all else stays: " + bad[i], text);
            // By the rain pair 1 is parted as the first hour goes by.
            T.due(1, "step", 0, 2, 0).due("null", "image", 1).due(0, "hours", 1).row(2, 1, 1001, 2003, -1, 22);
            T.due(1, "tie", 1, 1).due(3, "count", 9);
            String before = T.face.twin().depths();
            T.same("the answer", String.valueOf(-10 - kinds[i]), T.face.tell(bad[i]));
            String at = T.face.call("fault", 1);
            T.same("what is there", before.replaceFirst("^9 0 -1 ", "9 " + kinds[i] + " " + at + " "), T.face.twin().depths());
        }
    }

    private static void faultWhat() {
        // 4: what 0 and 1, no others.
        T.promise("4 fault of a new object").due(0, "fault", 0).due(-1, "fault", 1);
        for (int what : new int[] {-1, 2, 3, 10, Integer.MIN_VALUE, Integer.MAX_VALUE}) {
            T.due(-1, "fault", what);
        }
        T.face.tell("island 2 2; hour ; ");
        T.due(2, "fault", 0).due(17, "fault", 1);
        for (int what : new int[] {-1, 2, 3, 10, Integer.MIN_VALUE, Integer.MAX_VALUE}) {
            T.due(-1, "fault", what);
        }
        // 4: one that throws is not the latest that threw nothing; one without a fault is.
        T.refused(Check.ARGUMENT, "island", 1).refused(Check.ARGUMENT, "island", -1).due(2, "fault", 0).due(17, "fault", 1);
        T.face.tell("island 2 2;");
        T.due(0, "fault", 0).due(-1, "fault", 1).refused(Check.ARGUMENT, "island", 1).due(0, "fault", 0);
    }

    /** WIDE, HIGH: 2 to 5 each. */
    private static void sizes() {
        for (int wide = 0; wide <= 7; wide++) {
            for (int high = 0; high <= 7; high++) {
                if (wide < 2 || wide > 5) {
                    faulty(3, "island ^" + wide + " " + high + ";");
                } else if (high < 2 || high > 5) {
                    faulty(3, "island " + wide + " ^" + high + ";");
                } else {
                    right("island " + wide + " " + high + ";");
                    T.due(wide, "count", 1).due(high, "count", 2).due(1, "count", 0).due(0, "place", wide * high - 1);
                    T.refused(Check.NO_SUCH, "place", wide * high).refused(Check.NO_SUCH, "place", -1).due(0, "place", 0);
                }
            }
        }
        faulty(3, "island ^999 2;");
        faulty(3, "island 2 ^999;");
    }

    /** x from 0 to WIDE less 1, y from 0 to HIGH less 1: of a rock, a house, the first, the second. */
    private static void spots() {
        String[] heads = {"rock ", "house ", "pair 9 at ", "pair 9 at 0 0 and "};
        String[] tails = {";", ";", " and 0 0;", ";"};
        for (int wide = 2; wide <= 5; wide++) {
            for (int high = 2; high <= 5; high++) {
                String isle = "island " + wide + " " + high + ";";
                int last = wide * high - 1;
                for (int i = 0; i < 4; i++) {
                    faulty(3, isle + heads[i] + "^" + wide + " 0" + tails[i]);
                    faulty(3, isle + heads[i] + "0 ^" + high + tails[i]);
                    faulty(3, isle + heads[i] + (wide - 1) + " ^" + high + tails[i]);
                    faulty(3, isle + heads[i] + "^" + wide + " " + high + tails[i]);
                    right(isle + heads[i] + (wide - 1) + " " + (high - 1) + tails[i]);
                    T.due(i == 0 ? -2 : i == 1 ? 1 : 10, "place", last).due(0, "place", last - 1);
                    right(isle + heads[i] + (wide - 2) + " " + (high - 1) + tails[i]);
                    T.due(i == 0 ? -2 : i == 1 ? 1 : 10, "place", last - 1).due(0, "place", last);
                    right(isle + heads[i] + "0 1" + tails[i]);
                    T.due(i == 0 ? -2 : i == 1 ? 1 : 10, "place", wide).due(i < 2 ? 0 : 10, "place", 0);
                }
            }
        }
    }

    /** 3: the y of a PLACE where a rock, a house, one of a pair may not be told, whichever of them was told ahead. */
    private static void taken() {
        String isle = "island 3 3;rock 0 0;rock 1 0;rock 2 0;house 0 1;house 1 1;house 2 1;pair 1 at 0 2 and 1 2;pair 1 at 2 2 and 2 2;";
        for (int x = 0; x < 3; x++) {
            // On a rock: another rock alone. On a house: those of pairs alone. Where one of a pair is: all but rocks.
            right(isle + "rock " + x + " 0;");
            T.due(3, "count", 5).due(10, "count", 0);
            faulty(3, isle + "house " + x + " ^0;");
            faulty(3, isle + "pair 1 at " + x + " ^0 and 0 1;");
            faulty(3, isle + "pair 1 at 0 1 and " + x + " ^0;");
            faulty(3, isle + "rock " + x + " ^1;");
            faulty(3, isle + "house " + x + " ^1;");
            right(isle + "pair 1 at " + x + " 1 and " + x + " 1;");
            T.due(21, "place", 3 + x).due(3, "count", 3);
            faulty(3, isle + "rock " + x + " ^2;");
            right(isle + "house " + x + " 2;");
            T.due(x < 2 ? 11 : 21, "place", 6 + x).due(4, "count", 4);
            right(isle + "pair 1 at " + x + " 2 and " + x + " 2;");
            T.due(x < 2 ? 30 : 40, "place", 6 + x);
            faulty(3, isle + "house " + x + " 2;house " + x + " ^2;");
            faulty(3, isle + "house " + x + " 2;rock " + x + " ^2;");
        }
        // What another text told, one with a fault too, stands in nobody's way.
        T.face.tell("island 2 2;rock 1 1;house 0 0;pair 1 at 1 0 and 0 1;hour 1;#");
        T.same("the answer", "6", T.face.tell("island 2 2;rock 0 0;rock 1 0;rock 0 1;house 1 1;pair 1 at 1 1 and 1 1;"));
        T.same("the answer", "4", T.face.tell("island 2 2;house 0 0;rock 1 1;pair 1 at 1 0 and 0 1;"));
    }

    /** A number at both ends of its bounds, and beside them. */
    private static void bounds(int least, int most, String head, String tail, String call, long... args) {
        for (int n : new int[] {least, least + 1, most - 1, most}) {
            right(head + n + tail);
            T.due(n, call, args);
        }
        if (least > 0) {
            faulty(3, head + "^" + (least - 1) + tail);
        }
        faulty(most == 999 ? 1 : 3, head + "^" + (most + 1) + tail);
        if (most < 999) {
            faulty(3, head + "^999" + tail);
        }
    }

    private static void numbers() {
        String isle = "island 2 2;";
        bounds(1, 20, isle + "pair ", " at 0 0 and 1 0;", "pair", 0, 0);
        bounds(0, 9, isle + "pair 3 at 0 0 and 1 0 knots ", ";", "pair", 0, 1);
        right(isle + "pair 3 at 0 0 and 1 0;");
        T.due(0, "pair", 0, 1);
        bounds(0, 9, isle + "rain ", " for 1;", "count", 7);
        bounds(0, 999, isle + "hour ", ";", "count", 6);
        right(isle + "length: 0;");
        right(isle + "length: 999;");
        faulty(1, isle + "length: ^1000;");
        right(isle + "may: 999 = 0;");
        faulty(1, isle + "may: ^1000 = 0;");
        faulty(1, isle + "may: 0 = ^1000;");
        // For 1 to 99 HOURS, from the first one on.
        for (int hours : new int[] {1, 2, 98, 99}) {
            right(isle + "pair 1 at 0 0 and 0 0; length: rain; hour 7; rain 5 for " + hours + ";");
            T.due(5, "length", 0, 0).due(5, "length", 0, hours - 1).due(0, "length", 0, hours).due(0, "length", 0, 999);
            T.due(5, "count", 7);
        }
        faulty(3, isle + "rain 5 for ^0;");
        faulty(3, isle + "rain 5 for ^100;");
        right(isle + "pair 1 at 0 0 and 0 0; length: rain;");
        T.due(0, "count", 7).due(0, "count", 6).due(0, "length", 0, 0);
    }

    /** N has 1 to 3 digits; more are no TOKEN, at their first. */
    private static void digits() {
        String isle = "island 2 2;";
        right(isle + "hour 7;");
        right(isle + "hour 07;");
        right(isle + "hour 007;");
        T.due(7, "count", 6);
        faulty(1, isle + "hour ^0007;");
        faulty(1, isle + "hour ^0000;");
        faulty(1, isle + "hour ^9999;");
        faulty(1, isle + "hour ^12345678901234567890;");
        faulty(1, isle + "hour 7 ^0007;");
        faulty(2, isle + "hour 7 ^007;");
        faulty(2, isle + "hour 7 ^7;");
        faulty(1, "^0002 2 2;");
        faulty(2, "^002 2 2;");
        faulty(3, isle + "rock ^999 0;");
        faulty(1, isle + "rock ^9990 0;");
        right("island002 02;rock001 1;pair001at0 0and1 0knots009;");
        T.due(9, "pair", 0, 1).due(-2, "place", 3);
        // As many digits as the tape holds.
        T.promise("3 nothing but digits").same("the answer", "-11", T.face.tell("7".repeat(900))).due(0, "fault", 1);
        T.promise("3 nothing but letters").same("the answer", "-12", T.face.tell("z".repeat(900))).due(0, "fault", 1);
        T.promise("3 digits to the end").same("the answer", "-11", T.face.tell(isle + "hour 1000")).due(16, "fault", 1);
        T.promise("3 digits to the end").same("the answer", "-12", T.face.tell(isle + "hour 999")).due(19, "fault", 1);
    }

    /** Each byte by itself where a LINE is due. */
    private static void oneSign() {
        for (int b = 0; b < 256; b++) {
            char c = (char) b;
            boolean token = c >= 'a' && c <= 'z' || c >= '0' && c <= '9' || b > 0 && b < 128 && ";:+-*()[]=<>".indexOf(c) >= 0;
            T.promise("3 the byte " + b);
            boolean blank = b == 10 || b == 32;
            T.same("the answer", blank ? "1" : token ? "-12" : "-11", T.face.tell("island 2 2;" + c));
            T.due(blank ? 0 : token ? 2 : 1, "fault", 0).due(blank ? -1 : 11, "fault", 1);
            // Within a number or a word it parts them, or stands by itself.
            T.promise("3 the byte " + b + " in a number");
            boolean digit = c >= '0' && c <= '9';
            T.same("the answer", digit ? "-13" : token || blank ? "-12" : "-11", T.face.tell("island 2 2;rock 0 1" + c + "1;"));
            T.due(digit ? 18 : blank || c == ';' ? 20 : 19, "fault", 1);
            T.promise("3 the byte " + b + " in a word");
            T.same("the answer", "-12", T.face.tell("island 2 2;ro" + c + "ck 0 1;"));
            T.due(11, "fault", 1);
        }
    }

    private static void words() {
        String isle = "island 2 2;";
        faulty(2, "^islan 2 2;");
        faulty(2, "^islandd 2 2;");
        faulty(2, "^is land 2 2;");
        faulty(2, "island 2 2^is;");
        faulty(2, isle + "^rockrock 0 0;");
        faulty(2, isle + "rock 0 0^house 1 1;");
        faulty(2, isle + "^pairs 1 at 0 0 and 0 0;");
        faulty(2, isle + "pair 1^a 0 0 and 0 0;");
        faulty(2, isle + "pair 1 at 0 0^an 0 0;");
        faulty(2, isle + "pair 1 at 0 0 and 0 0^knot 1;");
        faulty(2, isle + "pair 1 at 0 0 and 0 0 knots^;");
        faulty(2, isle + "pair 1 at 0 0 and 0 0 knots 1 ^knots 1;");
        faulty(2, isle + "rain 1 ^fo 1;");
        faulty(2, isle + "rain 1 for 1 ^for 1;");
        faulty(2, isle + "hour^;");
        faulty(2, isle + "rock 0^;");
        faulty(2, isle + "rock^;");
        faulty(2, isle + "length ^rope;");
        faulty(2, isle + "may ^x = 1;");
        faulty(2, isle + "hour 1;^;");
        faulty(2, isle + "hour 1^");
        faulty(2, isle + "hour^");
        faulty(2, isle + "may: x = 1^");
        faulty(2, isle + "may: x =^");
        faulty(2, isle + "length:^");
        faulty(2, isle + "length^1:1;");
        // island: first, and once.
        faulty(2, "^hour 1; island 2 2;");
        faulty(2, isle + "^island 2 2;");
        faulty(2, isle + "hour 1; ^island 2 2;");
        faulty(2, isle + "hour ^island;");
    }

    /** Which words can stand in which law. */
    private static void names() {
        for (String w : WORDS) {
            boolean both = w.equals("rain") || w.equals("hour") || w.equals("pair");
            String isle = "island 2 2;";
            if (both || w.equals("rope") || w.equals("knots")) {
                right(isle + "length:" + w + ";");
                right(isle + "length:1+" + w + "*(" + w + ");");
            } else {
                faulty(2, isle + "length:^" + w + ";");
                faulty(2, isle + "length:1+^" + w + ";");
                faulty(2, isle + "length:(^" + w + ");");
            }
            if (both || w.equals("x") || w.equals("y") || w.equals("who")) {
                right(isle + "may:" + w + "=0;");
                right(isle + "may:not 1<(" + w + ")or[1>" + w + "];");
            } else if (w.equals("not")) {
                faulty(2, isle + "may:not^=0;");
                faulty(2, isle + "may:0=^not;");
            } else {
                faulty(2, isle + "may:^" + w + "=0;");
                faulty(2, isle + "may:0=^" + w + ";");
            }
        }
    }

    /** 8 houses, 4 pairs at most. */
    private static void many() {
        StringBuilder text = new StringBuilder("island 5 5;");
        for (int i = 0; i <= 8; i++) {
            if (i == 8) {
                faulty(2, text + "hour ^house");
                faulty(2, text + "rock 0 ^house");
                faulty(4, text + "^house 4 4;");
                faulty(4, text + "rock 4 4;^house 9 9;");
                // Of two faults the first along the text.
                faulty(3, text + "rock ^5 5;house 4 4;");
                faulty(4, text + "^house # 4;");
                break;
            }
            text.append("house ").append(i % 5).append(' ').append(i / 5).append(';');
            right(text.toString());
            T.due(i + 1, "count", 4).due(i, "house", i).due(Check.NO_SUCH, "house", i + 1);
        }
        text = new StringBuilder("island 5 5;");
        for (int i = 0; i <= 4; i++) {
            if (i == 4) {
                faulty(2, text + "rain 1 for ^pair");
                faulty(4, text + "^pair 1 at 4 4 and 4 4;");
                faulty(4, text + "house 0 0;^pair");
                right(text + "length: pair; may: pair = 1;");
                break;
            }
            text.append("pair ").append(i + 1).append(" at ").append(i).append(" 1 and 4 ").append(i).append(';');
            right(text.toString());
            T.due(i + 1, "count", 3).due(i + 1, "pair", i, 0).due(5 + i, "pair", i, 2).due(5 * i + 4, "pair", i, 3);
            T.due(Check.NO_SUCH, "pair", i + 1, 0);
        }
        // As many rocks as there are places.
        StringBuilder rocks = new StringBuilder("island 5 5;");
        for (int k = 0; k < 25; k++) {
            rocks.append("rock ").append(k % 5).append(' ').append(k / 5).append(';');
        }
        right(rocks.toString());
        T.due(25, "count", 5).due(26, "count", 0).due(-2, "place", 24);
        faulty(3, rocks + "pair 1 at 4 ^4 and 0 0;");
        faulty(3, rocks + "house 0 ^0;");
    }

    /** Six of not [ ( within one another, in any order; at a seventh the fault 4. */
    private static void deep() {
        for (int truths = 0; truths <= 7; truths++) {
            for (int mask = 0; mask < 1 << truths; mask++) {
                nest(truths, mask);
            }
        }
    }

    private static void nest(int truths, int mask) {
        StringBuilder open = new StringBuilder();
        StringBuilder shut = new StringBuilder();
        int last = 0;
        for (int i = 0; i < truths; i++) {
            last = open.length();
            open.append((mask >> i & 1) == 0 ? "not " : "[");
            shut.insert(0, (mask >> i & 1) == 0 ? "" : "]");
        }
        String head = "island 2 2;may:";
        if (truths == 7) {
            faulty(4, head + open.substring(0, last) + "^" + open.substring(last) + "x=1" + shut + ";");
            return;
        }
        int sums = 6 - truths;
        String left = open + "(".repeat(sums) + "x" + ")".repeat(sums) + "=";
        right(head + left + "(".repeat(sums) + "1" + ")".repeat(sums) + shut + ";");
        faulty(4, head + open + "(".repeat(sums) + "^(x" + ")".repeat(sums + 1) + "=1" + shut + ";");
        faulty(4, head + left + "(".repeat(sums) + "^(1" + ")".repeat(sums + 1) + shut + ";");
        // A seventh where it can't stand is of the lesser kind.
        faulty(2, head + left + "(".repeat(sums) + "^not" + ")".repeat(sums) + shut + ";");
        faulty(2, head + left + "(".repeat(sums) + "^[" + ")".repeat(sums) + shut + ";");
        faulty(2, head + left + "(".repeat(sums) + "1^(" + ")".repeat(sums) + shut + ";");
    }

    private static void deepButElsewhere() {
        String isle = "island 2 2;length:";
        right(isle + "((((((1)))))) * ((((((1))))));");
        faulty(4, isle + "((((((^(1))))))) * 1;");
        faulty(4, isle + "1 * ((((((1 + 2 * ^(1)))))));");
        faulty(2, isle + "((((((1 ^(2)))))));");
        faulty(2, isle + "((((((1)))))^;");
        faulty(2, isle + "((((((1))))))^);");
        right(isle + "(((((1)+(2)))))-((((((3*4)))-((5)))));");
        right("island 2 2;may:[[[[[[x=1]or[x=2]and x=3]]]]];");
        // What is shut again counts no more, however much of it.
        right("island 2 2;may:" + "[not[x=1]]and ".repeat(30) + "not not not not not not x=1;");
        faulty(4, "island 2 2;may:" + "[not[x=1]]and ".repeat(30) + "not not not not not not ^not x=1;");
        faulty(4, "island 2 2;may:not[not[not(x)=1 and not (^(x))=1]];");
        right("island 2 2;may:not[not[not(x)=1 and not (y)=1]];");
        faulty(1, "island 2 2;length:((((((^#");
        faulty(2, "island 2 2;length:((((((^");
        faulty(4, "island 2 2;length:((((((^(#");
    }

    private static void latestStrikes() {
        T.on("3 later ones strike", "island 2 2;pair 9 at 0 0 and 1 1;length:1;length:2;may:x=0;may:x=1;rain 1 for 9;rain 2 for 1;"
                + "hour 9;hour 0;");
        T.due(2, "length", 0, 0).due("false", "may", 0, 0, 0, 0).due("true", "may", 0, 0, 1, 0).due(2, "count", 7);
        T.due(0, "count", 6).due(10, "count", 0).due(0, "hours", 1).due(0, "count", 7);
    }
}
