/** Promises 1 to 9, and how the island's text is read. */
public final class IslandTest {
    private static final Check T = new Check();

    public static void main(String[] args) {
        newObject();
        feed();
        island();
        faultKinds();
        faultOrder();
        nesting();
        fault();
        place();
        pairAndHouse();
        length();
        keptWithin();
        may();
        toldAnew();
        longest();
        Check.end();
    }

    private static void newObject() {
        T.promise("1 a new object");
        for (int what = 0; what <= 10; what++) {
            T.due(0, "count", what);
        }
        for (int t = 0; t < 4; t++) {
            T.due(Check.STATE, "write", t, 0, 0).due(Check.STATE, "perform", t);
        }
        T.due(0, "fault", 0).due(-1, "fault", 1);
        T.due(Check.NO_SUCH, "place", 0).due(Check.NO_SUCH, "pair", 0, 0).due(Check.NO_SUCH, "house", 0);
        T.due(-1, "step", 0, 0, 0).due(1, "housed").due(0, "shortest", 0).due(0, "dear");
        T.due(Check.STATE, "restore", 0).due(Check.ARGUMENT, "undo", 1);
    }

    private static int word(String four) {
        return four.charAt(0) << 24 | four.charAt(1) << 16 | four.charAt(2) << 8 | four.charAt(3);
    }

    private static void feed() {
        T.promise("2 feed");
        T.due(20, "feed", word("isla"), word("nd 3"), word(" 2 ;"), word("rock"), word(" 1 0"));
        T.due(40, "feed", word(" ;ho"), word("use "), word("2 1;"), word("    "), word("    "));
        T.due(40, "count", 10).due(3, "island", 32).due(0, "count", 10);
        T.due(-2, "place", 1).due(1, "place", 5).due(0, "place", 0);
        for (int i = 1; i <= 45; i++) {
            T.due(20 * i, "feed", -1, Integer.MIN_VALUE, 0, 7, Integer.MAX_VALUE);
        }
        T.refused("-1", "feed", 1, 2, 3, 4, 5);
        T.due(900, "count", 10).due(-11, "island", 900).due(0, "fault", 1);
        // Bytes above 127 and the like are signs of no token, wherever they stand in an int.
        for (int shift = 0; shift < 32; shift += 8) {
            T.due(20, "feed", word("    ") ^ (0x20 ^ 0xC3) << shift, 0, 0, 0, 0);
            T.due(-11, "island", 4).due(3 - shift / 8, "fault", 1);
        }
    }

    private static void island() {
        T.promise("3 island");
        T.refused(Check.ARGUMENT, "island", 1).refused(Check.ARGUMENT, "island", -1);
        T.due(-12, "island", 0).due(0, "fault", 1);
        T.face.feed("island 4 2; rock 0 0; pair 1 at 1 0 and 3 1; hour 30; hour 7; rain 4 for 2;".getBytes());
        T.due(80, "count", 10).refused(Check.ARGUMENT, "island", 81).refused(Check.ARGUMENT, "island", -1);
        T.due(80, "count", 10).due(6, "island", 76).due(0, "count", 10).due(6, "count", 0);
        T.due(4, "count", 1).due(2, "count", 2).due(1, "count", 3).due(1, "count", 5).due(7, "count", 6);
        T.due(4, "count", 7).due(0, "pair", 0, 6).due(3, "pair", 0, 4);
        T.due(1, "hours", 1).due(1, "pair", 0, 6).due(1, "count", 9);
        // A fault leaves all as it is, but empties the tape.
        String before = T.face.state();
        T.face.feed("island 3 3; rain 10 for 2;".getBytes());
        T.due(-13, "island", 26).due(0, "count", 10).due(3, "fault", 0).due(17, "fault", 1);
        T.same("3 the state after a fault", before.replace(" 0 -1 | -2 ", " 3 17 | -2 "), T.face.state());
        // The same text anew: no deeds, nobody parted, though far apart.
        T.due("6", "count", 0);
        T.same("3 told anew", "6",
                T.face.tell("island 4 2; rock 0 0; pair 1 at 1 0 and 3 1; hour 30; hour 7; rain 4 for 2;"));
        T.due(0, "count", 9).due(0, "pair", 0, 6).due(7, "count", 6).due(0, "fault", 0).due(-1, "fault", 1);
        T.due(Check.ARGUMENT, "undo", 1);
        T.same("3 island alone", "1", T.face.tell("island 2 5;"));
        T.due(0, "count", 3).due(0, "count", 5).due(0, "count", 6).due(0, "count", 7).due(Check.NO_SUCH, "place", 10);
        // Later ones strike; rain is from the first hour on, wherever that is told; a rock twice is one.
        T.on("3 strikes", "island 2 2;length:1;length:rope+1;rain 9 for 99;rain 3 for 2;may:x=0;may:x=1;"
                + "pair 4 at 0 0 and 0 0;rock 1 1;rock 1 1;hour 5;hour 500;");
        T.due(12, "count", 0).due(1, "count", 5).due(3, "count", 7).due(5, "length", 0, 0).due(500, "count", 6);
        T.due("true", "may", 0, 0, 1, 0).due("false", "may", 0, 0, 0, 0);
        T.due(0, "hours", 1).due(3, "count", 7).due(0, "hours", 1).due(0, "count", 7);
    }

    /** A text whose faulty token is the one behind the mark ^. */
    private static void faulty(int kind, String marked) {
        int place = marked.indexOf('^');
        String text = marked.substring(0, place) + marked.substring(place + 1);
        T.promise("3 faults: " + marked);
        T.same("the answer", String.valueOf(-10 - kind), T.face.tell(text));
        T.due(kind, "fault", 0).due(place, "fault", 1).due(0, "count", 0).due(0, "count", 1);
    }

    private static void right(String text) {
        T.on("3 no fault: " + text, text);
    }

    private static void faultKinds() {
        faulty(2, "^");
        faulty(2, " \n ^");
        faulty(2, "^islands 2 2;");
        faulty(2, "^rock 0 0;");
        faulty(2, "island ^;");
        faulty(2, "island 2 2^");
        faulty(2, "island 2 2  ^");
        faulty(2, "island 2 2; ^island 2 2;");
        faulty(2, "island 2 2; ^;");
        faulty(2, "island 2 2 ^2;");
        faulty(3, "island ^1 2;");
        faulty(3, "island ^6 2;");
        faulty(3, "island 2 ^6;");
        faulty(3, "island 2 ^1;");
        faulty(3, "island ^000 2;");
        faulty(1, "island ^0002 2;");
        faulty(1, "^Island 2 2;");
        faulty(1, "island^\t2 2;");
        faulty(1, "island 2 2;^#");
        faulty(1, "island 2 2;^\r");
        faulty(1, "island 2 2;^" + (char) 200);
        right("island2 2;");
        right("\n island\n002\n05 ; ");
        right("island 5 5;rock 4 4;rock 0 0;");
        faulty(3, "island 5 5;rock ^5 4;");
        faulty(3, "island 5 5;rock 4 ^5;");
        faulty(3, "island 5 2;rock 4 ^2;");
        faulty(3, "island 2 5;rock ^2 4;");
        faulty(3, "island 2 3; house 1 2; rock 1 ^2;");
        faulty(3, "island 2 3; house 1 2; house 1 ^2;");
        faulty(3, "island 2 3; rock 1 2; house 1 ^2;");
        faulty(3, "island 2 3; rock 1 2; pair 3 at 1 ^2 and 0 0;");
        faulty(3, "island 2 3; rock 1 2; pair 3 at 0 0 and 1 ^2;");
        faulty(3, "island 2 3; pair 3 at 0 0 and 1 2; rock 1 ^2;");
        faulty(3, "island 2 3; pair 3 at 1 2 and 0 0; rock 1 ^2;");
        right("island 2 3; pair 3 at 1 2 and 1 2; house 1 2; rock 0 0; rock 0 0; pair 1 at 1 2 and 1 2;");
        faulty(3, "island 2 2; pair ^0 at 0 0 and 0 0;");
        faulty(3, "island 2 2; pair ^21 at 0 0 and 0 0;");
        right("island 2 2; pair 20 at 0 0 and 0 0 knots 9; pair 1 at 0 0 and 0 0 knots 0;");
        faulty(3, "island 2 2; pair 2 at 0 0 and 0 0 knots ^10;");
        faulty(2, "island 2 2; pair 2 at 0 0 and 0 0 ^at 10;");
        faulty(2, "island 2 2; pair 2 at 0 0 ^at 0 0;");
        faulty(2, "island 2 2; pair 2 ^0 0 and 0 0;");
        faulty(3, "island 2 2; rain ^10 for 1;");
        faulty(3, "island 2 2; rain 0 for ^0;");
        faulty(3, "island 2 2; rain 0 for ^100;");
        faulty(2, "island 2 2; rain 0 ^at 1;");
        right("island 2 2; rain 9 for 99; rain 0 for 1; hour 0; hour 999;");
        faulty(1, "island 2 2; hour ^1000;");
        faulty(2, "island 2 2; ^hours 9;");
        faulty(2, "island 2 2; ^7;");
        faulty(2, "island 2 2; ^zaz;");
        faulty(1, "island 2 2;^`");
        faulty(1, "island 2 2;^{");
        faulty(1, "island 2 2;^/");
        faulty(1, "island 2 2;^,");
        faulty(2, "island 2 2; ^rockx 0 0;");
        faulty(2, "island 2 2; ^roc 0 0;");
        faulty(2, "island 2 2; length: ^r;");
        faulty(2, "island 2 2; ^knots 7;");
        String houses = "";
        for (int i = 0; i < 8; i++) {
            houses += "house " + i % 4 + " " + i / 4 + ";";
        }
        right("island 4 3;" + houses);
        faulty(4, "island 4 3;" + houses + "^house 0 2;");
        faulty(4, "island 4 3;" + houses + "^house");
        String pairs = "pair 1 at 0 0 and 0 0;".repeat(4);
        right("island 4 3;" + pairs);
        faulty(4, "island 4 3;" + pairs + "^pair 1 at 0 0 and 0 0;");
        faulty(4, "island 4 3;" + pairs + "^pair 99");
    }

    private static void faultOrder() {
        // The first along the text; at one token the least kind.
        faulty(2, "island 2 2 ^+ ; hour 1000;");
        faulty(1, "island 2 2 ^#;");
        faulty(1, "island 2 2; hour ^# hour 999 9");
        faulty(3, "island ^9 2 # #");
        faulty(2, "island 2 2; length ^7;");
        faulty(2, "island 2 2; length: ^x;");
        faulty(2, "island 2 2; length: ^y;");
        faulty(2, "island 2 2; length: ^who;");
        faulty(2, "island 2 2; may: ^rope = 1;");
        faulty(2, "island 2 2; may: ^knots = 1;");
        faulty(2, "island 2 2; may: x^;");
        faulty(2, "island 2 2; may: x =y ^= 1;");
        faulty(2, "island 2 2; length: rope ^= 1;");
        faulty(2, "island 2 2; length: ^[1];");
        faulty(2, "island 2 2; length: ^- 1;");
        faulty(2, "island 2 2; length: 1 + ^;");
        faulty(2, "island 2 2; length: (1^;");
        faulty(2, "island 2 2; length: 1^);");
        faulty(2, "island 2 2; length: (^);");
        faulty(2, "island 2 2; length: 1 ^length: 2;");
        faulty(2, "island 2 2; may: (x ^= 1);");
        faulty(2, "island 2 2; may: [x=1 ^;");
        faulty(2, "island 2 2; may: x=1^not y=1;");
        faulty(2, "island 2 2; may: x=1 or ^;");
        faulty(2, "island 2 2; may: x=1 and ^;");
        faulty(2, "island 2 2; may: not ^;");
        faulty(2, "island 2 2; may: x=1^ory=1;");
        faulty(3, "island 2 2; rock 0 ^2; length: 1000;");
        faulty(1, "island 2 2; length: ^1000;");
        right("island 2 2; length: 999; may: not 1=1;");
        right("island 2 2; length:rope*knots-rain+hour*pair; may: x+y*who<pair-rain+hour;");
        right("island 2 2; may: not[x=1or y>0]and not who<2 or 1=1;");
    }

    private static void nesting() {
        right("island 2 2; length: ((((((1))))));");
        faulty(4, "island 2 2; length: ((((((^(1)))))));");
        right("island 2 2; length: ((((((1)))))) + ((((((2)))))) * (1);");
        right("island 2 2; may: not not not not not not x=1;");
        faulty(4, "island 2 2; may: not not not not not not ^not x=1;");
        right("island 2 2; may: [[[[[[x=1]]]]]] or [not[not[(x)=1]]];");
        faulty(4, "island 2 2; may: [[[[[[^[x=1]]]]]]];");
        right("island 2 2; may: not [ not [ ((x)) = 1 ] ] and ((((((y)))))) > 0;");
        faulty(4, "island 2 2; may: not [ not [ ((^(x))) = 1 ] ];");
        faulty(4, "island 2 2; may: [[[[[[ ^not x=1]]]]]];");
        faulty(4, "island 2 2; may: [[[[[[^(x)=1]]]]]];");
        faulty(4, "island 2 2; may: x = 1 or not [not [not [x = ^(1)]]];");
        right("island 2 2; may: not x=1 and not x=2 and not x=3 and not x=4 and not x=5 and not x=6 and not x=7;");
        // The seventh is ahead of what would be wrong as well.
        faulty(4, "island 2 2; length: ((((((^(x;");
    }

    private static void fault() {
        T.promise("4 fault");
        T.due(0, "fault", 0).due(-1, "fault", 1).due(-1, "fault", 2).due(-1, "fault", -1);
        T.face.tell("island 2 2; hour hour;");
        T.due(2, "fault", 0).due(17, "fault", 1).due(-1, "fault", 2).due(-1, "fault", Integer.MIN_VALUE);
        // One that throws is not the latest that threw nothing.
        T.due(Check.ARGUMENT, "island", 1).due(2, "fault", 0).due(17, "fault", 1);
        T.due("null", "image", 0).due("null", "restore", 0).due(2, "fault", 0);
        T.face.tell("island 2 2;");
        T.due(0, "fault", 0).due(-1, "fault", 1);
    }

    private static void place() {
        T.on("5 place", "island 3 2; rock 2 0; house 0 0; house 1 1; pair 1 at 0 0 and 0 0; pair 1 at 1 0 and 0 0;");
        T.due(31, "place", 0).due(10, "place", 1).due(-2, "place", 2).due(0, "place", 3).due(1, "place", 4);
        T.due(0, "place", 5).refused(Check.NO_SUCH, "place", 6).refused(Check.NO_SUCH, "place", -1);
        T.refused(Check.NO_SUCH, "place", Integer.MAX_VALUE);
        T.due(0, "step", 0, 3, 3).due(11, "place", 0).due(20, "place", 3);
    }

    private static void pairAndHouse() {
        T.on("6 pair", "island 4 3; pair 7 at 3 0 and 1 2 knots 3; pair 20 at 0 1 and 0 1; house 2 2; house 1 0;");
        T.due(7, "pair", 0, 0).due(3, "pair", 0, 1).due(3, "pair", 0, 2).due(9, "pair", 0, 3).due(4, "pair", 0, 4);
        T.due(4, "pair", 0, 5).due(0, "pair", 0, 6).due(20, "pair", 1, 0).due(0, "pair", 1, 1).due(4, "pair", 1, 2);
        T.due(4, "pair", 1, 3).due(0, "pair", 1, 4).due(20, "pair", 1, 5).due(0, "pair", 1, 6);
        T.refused(Check.NO_SUCH, "pair", 2, 0).refused(Check.NO_SUCH, "pair", -1, 7);
        T.refused(Check.ARGUMENT, "pair", 0, 7).refused(Check.ARGUMENT, "pair", 1, -1);
        T.due(3, "tie", 0, 4).due(3, "pair", 0, 5).due(4, "pair", 0, 1).due(1, "hours", 1).due(1, "pair", 0, 6);
        T.due(0, "pair", 1, 6);
        T.due(10, "house", 0).due(1, "house", 1).refused(Check.NO_SUCH, "house", 2).refused(Check.NO_SUCH, "house", -1);
    }

    private static void length() {
        T.on("8 length", "island 2 2; pair 3 at 0 0 and 1 1 knots 5; pair 9 at 0 0 and 0 0 knots 2;");
        T.due(0, "length", 0, 0).due(7, "length", 1, 999);
        T.on("8 length", "island 2 2; hour 22; rain 3 for 2; pair 2 at 0 0 and 0 0 knots 1;"
                + "pair 3 at 0 0 and 0 0; length: rope * 10 + hour - rain * (knots + 1) + pair;");
        T.due(20 + 22 - 6, "length", 0, 0).due(30 + 22 - 3 + 1, "length", 1, 0);
        T.due(20 + 23 - 6, "length", 0, 1).due(20, "length", 0, 2).due(21, "length", 0, 3).due(31, "length", 1, 2);
        T.due(20 + (22 + 999) % 24, "length", 0, 999);
        T.refused(Check.ARGUMENT, "length", 0, 1000).refused(Check.ARGUMENT, "length", 0, -1);
        T.refused(Check.NO_SUCH, "length", 2, 0).refused(Check.NO_SUCH, "length", -1, -1);
    }

    private static void lengthIs(int want, String law) {
        T.on("2 the law length: " + law, "island 2 2; pair 7 at 0 0 and 0 0 knots 2; length: " + law + ";");
        T.due(want, "pair", 0, 5).due(want, "length", 0, 0);
    }

    private static void keptWithin() {
        lengthIs(99, "100");
        lengthIs(99, "99");
        lengthIs(98, "98");
        lengthIs(90, "90");
        lengthIs(99, "999");
        lengthIs(0, "knots - rope");
        lengthIs(99, "999 * 999 * 999");
        lengthIs(1, "999 * 999 * 999 - 999 * 999 - 999 - 999");
        lengthIs(5, "0 - 999 * 999 - 999 * 999 + 999 * 999 + 999 + 999 + 6");
        lengthIs(1, "1 + (0 - 999) * 999 * 999 * 999 + 999 * 999 * 999");
        lengthIs(3, "999 * 999 * 999 + 999 - 999 * 999 - 999 - 997");
        lengthIs(9, "rope - knots + 4");
        lengthIs(1, "rope - (knots + 4)");
        lengthIs(15, "1 + rope * knots");
        lengthIs(16, "(1 + rope) * knots");
        lengthIs(2, "9 - 4 - 3");
        lengthIs(8, "9 - (4 - 3)");
        lengthIs(0, "pair + rain + hour");
    }

    private static void lawSays(boolean want, String law) {
        T.on("2 the law may: " + law, "island 3 2; pair 7 at 0 0 and 0 0; may: " + law + ";");
        T.due(String.valueOf(want), "may", 0, 0, 0, 0);
    }

    private static void may() {
        T.on("9 may", "island 3 3; rock 1 1; pair 1 at 0 0 and 0 0; pair 1 at 0 0 and 0 0; hour 23; rain 2 for 2;"
                + "may: x * 2 + y + who * 100 + pair * 10 = hour or rain * 2 = 4 and x > 1 and y < 1;");
        T.due("true", "may", 0, 0, 2, 0).due("true", "may", 0, 0, 2, 1).due("false", "may", 0, 0, 2, 2);
        T.due("false", "may", 0, 0, 5, 0).due("true", "may", 0, 0, 0, 1).due("true", "may", 0, 0, 0, 25);
        T.due("true", "may", 0, 0, 3, 2).due("true", "may", 0, 0, 6, 3).due("false", "may", 0, 0, 6, 2);
        T.due("true", "may", 0, 0, 5, 6).due("true", "may", 1, 0, 5, 16).due("false", "may", 1, 0, 5, 6);
        T.due("false", "may", 0, 1, 5, 6).due("false", "may", 0, 0, 0, 999);
        T.refused(Check.STATE, "may", 0, 0, 4, 0).refused(Check.NO_SUCH, "may", 2, 0, 0, 0);
        T.refused(Check.NO_SUCH, "may", 0, 0, 9, 0).refused(Check.NO_SUCH, "may", 0, 5, -1, 2000);
        T.refused(Check.NO_SUCH, "may", -1, 5, 4, 2000).refused(Check.ARGUMENT, "may", 0, 2, 4, 0);
        T.refused(Check.ARGUMENT, "may", 0, -1, 0, 0).refused(Check.ARGUMENT, "may", 0, 0, 4, 1000);
        T.refused(Check.ARGUMENT, "may", 0, 0, 0, -1);
        T.on("9 may without a law", "island 2 2; pair 1 at 0 0 and 0 0; rock 1 1;");
        T.due("true", "may", 0, 0, 0, 0).due("true", "may", 0, 1, 2, 999).due(Check.STATE, "may", 0, 0, 3, 0);
        lawSays(true, "1=1");
        lawSays(false, "not 1=1");
        lawSays(true, "not not 1=1");
        lawSays(true, "1=1 or 1=1 and 1=2");
        lawSays(false, "[1=1 or 1=1] and 1=2");
        lawSays(true, "not 1=2 and 1=1");
        lawSays(false, "not [1=2 or 1=1]");
        lawSays(true, "1=2 or not 2<1");
        lawSays(false, "2<2 or 2>2 or 1>2 or 2<1");
        lawSays(true, "999*999*999 = 999*999*998");
        lawSays(true, "0-999*999*999 = 0-999*999*998");
        lawSays(true, "1+2*3 = 7 and (1+2)*3 = 9");
    }

    /** Nothing of an island, or of a text that was refused, is left in the next. */
    private static void toldAnew() {
        T.on("3 told anew", "island 5 4; house 1 1; house 2 1; rock 0 0; pair 3 at 1 0 and 1 2 knots 2;"
                + "pair 9 at 3 3 and 4 3 knots 3; length: 7; may: x = 4; rain 8 for 8; hour 88;");
        T.same("3 refused", "-12", T.face.tell("island 5 5; house 2 2; rock 3 3; pair 20 at 4 4 and 4 4; length: 50; may: 1=2; x"));
        T.same("3 plain", "5", T.face.tell("island 3 3; rock 2 2; rock 1 1; rock 1 2; pair 3 at 0 0 and 2 1;"));
        long[] due = {5, 3, 3, 1, 0, 3, 0, 0, 0, 0, 0};
        for (int what = 0; what <= 10; what++) {
            T.due(due[what], "count", what);
        }
        T.due(10, "place", 0).due(10, "place", 5).due(-2, "place", 4).due(0, "place", 2).due(Check.NO_SUCH, "house", 0);
        T.due(3, "pair", 0, 5).due(0, "pair", 0, 1).due("true", "may", 0, 0, 1, 0).due(0, "housed");
        T.same("3 bare", "1", T.face.tell("island 2 2;"));
        long[] bare = {1, 2, 2, 0, 0, 0, 0, 0, 0, 0, 0};
        for (int what = 0; what <= 10; what++) {
            T.due(bare[what], "count", what);
        }
    }

    /** Texts that fill the whole tape. */
    private static void longest() {
        StringBuilder text = new StringBuilder("island 2 2;pair 9 at 0 0 and 1 1;length:9");
        while (text.length() < 898) {
            text.append(text.length() % 4 == 1 ? "-1" : "+1");
        }
        text.append(text.length() == 898 ? " ;" : ";");
        T.on("3 the longest text", text.toString());
        int due = 9;
        for (int i = text.indexOf("9+") < 0 ? text.indexOf("9-") : text.indexOf("9+"); i < text.length(); i++) {
            due += text.charAt(i) == '+' ? 1 : text.charAt(i) == '-' ? -1 : 0;
        }
        T.due(due, "length", 0, 0).due(3, "count", 0);
        if (text.length() != 900) {
            T.report("the text has " + text.length() + " bytes");
        }
        String ends = text.substring(0, 899);
        T.promise("3 the longest text without its end").same("refused", "-12", T.face.tell(ends)).due(899, "fault", 1);
        T.promise("3 the longest text and more").same("refused", "-12", T.face.tell(ends + "+")).due(900, "fault", 1);
        T.promise("3 nothing but signs").same("refused", "-12", T.face.tell(";".repeat(900))).due(0, "fault", 1);
        T.promise("3 nothing but blanks").same("refused", "-12", T.face.tell(" ".repeat(900))).due(900, "fault", 1);
        T.on("3 as many lines as can be", "island 5 5;" + "hour 9;".repeat(126) + "hour 8;").due(128, "count", 0);
        T.due(8, "count", 6);
    }
}
