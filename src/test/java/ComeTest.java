/** Promises 18 to 23: what hours to come bring. */
public final class ComeTest {
    private static final Check T = new Check();
    /** A row of five places, 0 to 4, with rocks below it. */
    private static final String ROW = "island 5 2; rock 0 1; rock 1 1; rock 2 1; rock 3 1; rock 4 1;";

    public static void main(String[] args) {
        partsIn();
        lasts();
        reach();
        reachByLaws();
        together();
        meal();
        farthest();
        partedOnes();
        Check.end();
    }

    private static void partsIn() {
        T.on("18 partsIn", ROW + "pair 3 at 0 0 and 4 0; pair 4 at 0 0 and 4 0;");
        T.due(1, "partsIn", 0).due(-1, "partsIn", 1).due(1, "hours", 1).due(0, "partsIn", 0).due(-1, "partsIn", 1);
        T.refused(Check.NO_SUCH, "partsIn", 2).refused(Check.NO_SUCH, "partsIn", -1);
        T.due(3, "tie", 1, 1).due(1, "partsIn", 1);
        // 26 less the hour is 3 at 23, when the rope is too short for the first time.
        T.on("18 partsIn by the hour", ROW + "pair 4 at 0 0 and 4 0; hour 7; length: 26 - hour;");
        T.due(16, "partsIn", 0).due(0, "hours", 15).due(1, "partsIn", 0).due(1, "hours", 1).due(0, "partsIn", 0);
        // The rain's last hour is the third; this one is not asked, though it is too long apart now.
        T.on("18 partsIn by rain", ROW + "pair 4 at 0 0 and 4 0; rain 9 for 1; length: rope - rain;");
        T.due(0, "pair", 0, 5).due(-1, "partsIn", 0);
        T.on("18 partsIn by rain's end", ROW + "pair 1 at 0 0 and 4 0; rain 4 for 99; length: rain;");
        T.due(99, "partsIn", 0).due(0, "hours", 98).due(1, "partsIn", 0);
        T.due(0, "undo", 1).due(1, "hours", 99).due(0, "partsIn", 0);
    }

    private static void lasts() {
        T.on("19 lasts", ROW + "pair 4 at 0 0 and 4 0; pair 3 at 0 0 and 4 0; pair 2 at 0 0 and 4 0; pair 1 at 0 0 and 4 0;");
        // Far apart now, two can come together by two each hour.
        T.due(40, "lasts", 0).due(40, "lasts", 1).due(40, "lasts", 2).due(0, "lasts", 3);
        T.refused(Check.NO_SUCH, "lasts", 4).refused(Check.NO_SUCH, "lasts", -1);
        T.due(14, "hours", 1).due(40, "lasts", 3).due(40, "lasts", 2);
        // The first can't go; the second comes nearer by one each hour, the rope by two.
        T.on("19 lasts by the hour", ROW + "pair 4 at 0 0 and 4 0; pair 4 at 0 0 and 0 0; length: 6 - 2 * hour; may: who = 1;");
        T.due(2, "lasts", 0).due(40, "lasts", 1).due(1, "hours", 2).due(40, "lasts", 0);
        T.on("19 lasts, some hours", ROW + "pair 4 at 0 0 and 4 0; rain 4 for 20; length: rain; may: 1 = 2;");
        T.due(19, "lasts", 0).due(0, "hours", 7).due(12, "lasts", 0);
        T.due(0, "rain", 4, 41).due(40, "lasts", 0).due(0, "rain", 4, 40).due(39, "lasts", 0);
    }

    private static void reach() {
        T.on("20 reach", ROW + "pair 2 at 0 0 and 1 0;");
        T.due(1, "reach", 0, 0, 0).due(2, "reach", 0, 1, 0).due(3, "reach", 0, 0, 1).due(7, "reach", 0, 1, 1);
        T.due(7, "reach", 0, 0, 2).due(15, "reach", 0, 1, 2).due(31, "reach", 0, 0, 4).due(31, "reach", 0, 1, 40);
        T.refused(Check.ARGUMENT, "reach", 0, 2, 0).refused(Check.ARGUMENT, "reach", 0, -1, 0);
        T.refused(Check.ARGUMENT, "reach", 0, 0, 41).refused(Check.ARGUMENT, "reach", 0, 1, -1);
        T.refused(Check.NO_SUCH, "reach", 1, 2, 41).refused(Check.NO_SUCH, "reach", -1, 0, 0);
        // Up and down too: the middle of three by three.
        T.on("20 reach on a field", "island 3 3; pair 9 at 1 1 and 0 0;");
        T.due(0b010111010, "reach", 0, 0, 1).due(0b000001011, "reach", 0, 1, 1).due(511, "reach", 0, 0, 2);
        T.due(0b001011111, "reach", 0, 1, 2);
        // One object, islands of another shape: as many places, as wide, smaller.
        T.same("another island", "2", T.face.tell("island 4 2; pair 2 at 0 0 and 0 0;"));
        T.due(0b00010011, "reach", 0, 0, 1).due(2, "farthest", 0, 5).due(0b01111111, "reach", 0, 1, 3);
        T.same("another island", "2", T.face.tell("island 2 4; pair 2 at 0 0 and 0 0;"));
        T.due(0b00000111, "reach", 0, 0, 1).due(2, "farthest", 0, 5).due(0b01111111, "reach", 0, 1, 3);
        T.same("another island", "2", T.face.tell("island 2 3; pair 2 at 0 0 and 0 0;"));
        T.due(0b00000111, "reach", 0, 0, 1).due(2, "farthest", 0, 5).due(0b00111111, "reach", 0, 1, 3);
        T.same("another island", "2", T.face.tell("island 3 2; pair 2 at 0 0 and 0 0;"));
        T.due(0b00001011, "reach", 0, 0, 1).due(2, "farthest", 0, 5).due(0b00111111, "reach", 0, 1, 3);
        T.same("another island", "2", T.face.tell("island 5 5; pair 2 at 0 0 and 0 0;"));
        T.due(0b00000100011, "reach", 0, 0, 1).due(2, "farthest", 0, 5);
        // There is no way on: nowhere at all.
        T.on("20 reach without a way on", ROW + "pair 1 at 0 0 and 4 0;");
        T.due(1, "reach", 0, 0, 0).due(0, "reach", 0, 0, 1).due(0, "reach", 0, 1, 40);
    }

    private static void reachByLaws() {
        // Who goes ahead is held by who can't follow.
        T.on("20 reach, one stays", ROW + "pair 2 at 1 0 and 1 0; pair 2 at 1 0 and 1 0; may: who = 0 and pair = 0 or who = 1;");
        T.due(31 & ~16, "reach", 0, 0, 2).due(31, "reach", 0, 1, 3).due(2, "reach", 1, 0, 9).due(15, "reach", 1, 1, 9);
        // The hour that they come to tells: by the second hour the law opens.
        T.on("20 reach by the hour", ROW + "pair 9 at 0 0 and 0 0; hour 5; may: hour > 6; rain 1 for 2;");
        T.due(1, "reach", 0, 0, 1).due(3, "reach", 0, 0, 2).due(7, "reach", 0, 1, 3);
        T.on("20 reach by rain", ROW + "pair 9 at 0 0 and 0 0; may: rain = 0; rain 3 for 3;");
        T.due(1, "reach", 0, 0, 2).due(3, "reach", 0, 0, 3).due(7, "reach", 0, 0, 4);
        // No wider apart on the way than the rope is then.
        T.on("20 reach by a rope that grows", ROW + "pair 9 at 0 0 and 0 0; length: hour; may: who = 0; hour 23;");
        T.due(1, "reach", 0, 0, 1).due(3, "reach", 0, 0, 2).due(7, "reach", 0, 0, 3).due(1, "reach", 0, 1, 30);
    }

    private static void together() {
        T.on("21 together", ROW + "pair 2 at 0 0 and 1 0; pair 9 at 0 0 and 4 0; pair 5 at 3 0 and 3 0;");
        T.due(0, "together", 0, 0).due(3, "together", 0, 1).due(7, "together", 0, 2).due(31, "together", 0, 40);
        T.due(0, "together", 1, 1).due(4, "together", 1, 2).due(14, "together", 1, 3).due(8, "together", 2, 0);
        T.refused(Check.ARGUMENT, "together", 0, 41).refused(Check.ARGUMENT, "together", 0, -1);
        T.refused(Check.NO_SUCH, "together", 3, 41).refused(Check.NO_SUCH, "together", -1, 0);
        T.on("21 together without a way on", ROW + "pair 1 at 0 0 and 4 0;").due(0, "together", 0, 3);
    }

    private static void meal() {
        T.on("22 meal", ROW + "pair 2 at 0 0 and 1 0; pair 9 at 0 0 and 4 0; pair 5 at 3 0 and 3 0; pair 9 at 1 0 and 4 0;");
        T.due(1, "meal", 0, 0).due(0, "meal", 0, 1).due(2, "meal", 1, 0).due(2, "meal", 1, 1);
        T.due(0, "meal", 2, 0).due(3, "meal", 2, 1).due(2, "meal", 3, 0).due(2, "meal", 3, 1);
        T.refused(Check.ARGUMENT, "meal", 0, 2).refused(Check.ARGUMENT, "meal", 0, -1);
        T.refused(Check.NO_SUCH, "meal", 4, 5).refused(Check.NO_SUCH, "meal", -1, 0);
        T.on("22 meal, never", "island 2 2; rock 1 0; rock 0 1; pair 9 at 0 0 and 1 1;");
        T.due(-1, "meal", 0, 0).due(-1, "meal", 0, 1);
        // The way on ends ahead of the meal.
        T.on("22 meal, no way on", ROW + "pair 3 at 0 0 and 4 0; length: 5 - 3 * hour; may: who = 0;");
        T.due(-1, "meal", 0, 0).due(-1, "meal", 0, 1);
        T.on("22 meal in the fortieth hour", ROW + "pair 9 at 0 0 and 1 0; rain 1 for 40; may: rain = 0;");
        T.due(40, "meal", 0, 0).due(0, "meal", 0, 1).due(0, "rain", 1, 41).due(-1, "meal", 0, 0).due(-1, "meal", 0, 1);
    }

    private static void farthest() {
        T.on("23 farthest", ROW + "pair 3 at 0 0 and 1 0; pair 1 at 0 0 and 4 0;");
        T.due(1, "farthest", 0, 0).due(2, "farthest", 0, 1).due(3, "farthest", 0, 2).due(3, "farthest", 0, 40);
        T.due(4, "farthest", 1, 0).due(-1, "farthest", 1, 1).due(-1, "farthest", 1, 40);
        T.refused(Check.ARGUMENT, "farthest", 0, 41).refused(Check.ARGUMENT, "farthest", 0, -1);
        T.refused(Check.NO_SUCH, "farthest", 2, 41).refused(Check.NO_SUCH, "farthest", -1, 0);
        T.on("23 farthest now", ROW + "pair 3 at 4 0 and 0 0; pair 3 at 0 0 and 4 0; pair 3 at 2 0 and 0 0;");
        T.due(4, "farthest", 0, 0).due(4, "farthest", 1, 0).due(2, "farthest", 2, 0);
        T.on("23 farthest on the widest island", "island 5 5; pair 20 at 2 2 and 2 2; pair 7 at 2 2 and 2 2;");
        T.due(2, "farthest", 0, 1).due(8, "farthest", 0, 4).due(7, "farthest", 1, 40).due(6, "farthest", 1, 3);
    }

    private static void partedOnes() {
        T.on("3 parted ones go as they like", ROW + "pair 1 at 0 0 and 4 0;").due(1, "hours", 1);
        T.due(40, "lasts", 0).due(3, "reach", 0, 0, 1).due(31, "reach", 0, 1, 4).due(2, "meal", 0, 0);
        T.due(4, "farthest", 0, 40).due(31, "together", 0, 40);
    }
}
