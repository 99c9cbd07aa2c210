/** One test's object, and what was wrong with its answers. */
final class Check {
    static final String NO_SUCH = "throws.NoSuchElementException";
    static final String ARGUMENT = "throws.IllegalArgumentException";
    static final String STATE = "throws.IllegalStateException";
    static final String INDEX = "throws.IndexOutOfBoundsException";

    private static int wrong = 0;
    Face face = new Face(new RopeWeds());
    private String promise = "";

    /** A new object for what follows. */
    Check promise(String name) {
        promise = name;
        face = new Face(new RopeWeds());
        return this;
    }

    /** A new object with an island. */
    Check on(String name, String text) {
        promise(name);
        String lines = face.tell(text);
        if (lines.startsWith("-")) {
            report("the island is refused: " + lines + " at " + face.call("fault", 1));
        }
        return this;
    }

    Check due(String want, String call, long... args) {
        String got = face.call(call, args);
        if (!got.equals(want)) {
            report(call + java.util.Arrays.toString(args) + " answered " + got + ", due is " + want);
        }
        return this;
    }

    Check due(long want, String call, long... args) {
        return due(Long.toString(want), call, args);
    }

    /** The call throws this, and nothing has changed by it. */
    Check refused(String want, String call, long... args) {
        String before = face.state();
        due(want, call, args);
        same("the state after " + call, before, face.state());
        return this;
    }

    Check same(String what, String due, String got) {
        if (!got.equals(due)) {
            report(what + " is\n  " + got + ", due is\n  " + due);
        }
        return this;
    }

    /** A tray of a sort with these numbers. */
    Check row(int tray, int sort, long... numbers) {
        face.call("tray", tray, sort, numbers.length);
        for (int i = 0; i < numbers.length; i++) {
            face.call("write", tray, i, numbers[i]);
        }
        return this;
    }

    void report(String what) {
        wrong++;
        System.out.println(promise + ": " + what);
    }

    static void end() {
        if (wrong > 0) {
            System.exit(1);
        }
    }
}
