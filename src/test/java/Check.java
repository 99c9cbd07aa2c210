/** One test's object, and what was wrong with its answers. */
final class Check {
    static final String NO_SUCH = "throws.NoSuchElementException";
    static final String ARGUMENT = "throws.IllegalArgumentException";
    static final String STATE = "throws.IllegalStateException";
    static final String INDEX = "throws.IndexOutOfBoundsException";

    private static final int NONE = -1;

    private static int wrong = 0;
    Face face = new Face(new RopeWeds());
    private String promise = "";
    /** What was in the object after so many calls, kept as long as nothing else is called. */
    private String depths = "";
    private int depthsAfter = NONE;

    /** A new object for what follows. */
    Check promise(String name) {
        promise = name;
        face = new Face(new RopeWeds());
        depthsAfter = NONE;
        return this;
    }

    /** A new object with an island. */
    Check on(String name, String text) {
        promise(name);
        String lines = face.tell(text);
        if (lines.startsWith("-")) {
            report("the island is refused: " + lines + " at " + face.call("fault", 1));
        }
        return this;
    }

    Check due(String want, String call, long... args) {
        String got = face.call(call, args);
        if (face.calls() > 512) {
            report(call + " is a call beyond those that are promised");
        }
        if (!got.equals(want)) {
            report(call + java.util.Arrays.toString(args) + " answered " + got + ", due is " + want);
        }
        return this;
    }

    Check due(long want, String call, long... args) {
        return due(Long.toString(want), call, args);
    }

    /** The call throws this, and nothing has changed by it. */
    Check refused(String want, String call, long... args) {
        if (depthsAfter != face.calls()) {
            depths = face.twin().depths();
        }
        due(want, call, args);
        same("what is there after " + call + java.util.Arrays.toString(args), depths, face.twin().depths());
        depthsAfter = face.calls();
        return this;
    }

    /**
     * One of the arguments just outside of its bounds, far outside, on them and just inside, each on an
     * object of its own; answers are those at least, least + 1, most - 1 and most.
     */
    Check edges(String thrown, String call, int which, long least, long most, String answers, long... args) {
        String[] due = answers.split(" ");
        long[] inside = {least, least + 1, most - 1, most};
        Face here = face;
        for (int i = 0; i < 4; i++) {
            face = here.twin();
            due(due[i], call, with(args, which, inside[i]));
        }
        face = here;
        for (long v : new long[] {least - 1, most + 1, Integer.MIN_VALUE, Integer.MAX_VALUE}) {
            refused(thrown, call, with(args, which, v));
        }
        return this;
    }

    private static long[] with(long[] args, int which, long v) {
        long[] all = args.clone();
        all[which] = v;
        return all;
    }

    Check same(String what, String due, String got) {
        if (!got.equals(due)) {
            report(what + " is\n  " + got + ", due is\n  " + due);
        }
        return this;
    }

    /** A tray of a sort with these numbers. */
    Check row(int tray, int sort, long... numbers) {
        face.call("tray", tray, sort, numbers.length);
        for (int i = 0; i < numbers.length; i++) {
            face.call("write", tray, i, numbers[i]);
        }
        return this;
    }

    void report(String what) {
        wrong++;
        System.out.println(promise + ": " + what);
    }

    static void end() {
        if (wrong > 0) {
            System.exit(1);
        }
    }
}
