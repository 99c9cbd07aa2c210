import java.util.Random;

/** Runs of calls by seeded draws on RopeWeds and on the plodding Model: all must answer alike. */
public final class ModelTest {
    private static final String[] ASKED = {"place", "pair", "house", "length", "may", "step", "step", "step", "tie",
        "rain", "hours", "undo", "judge", "perform", "season", "partsIn", "lasts", "reach", "together", "meal",
        "farthest", "soonest", "leads", "ways", "alone", "costs", "leastRope", "needed", "clear", "errands", "dropped",
        "housed", "shortest", "dear", "other", "fits", "look", "tray", "write", "copy", "image", "restore", "count",
        "fault", "row", "row", "row", "row"};

    private final Random random;
    private final Face real = new Face(new RopeWeds());
    private final Face plain = new Face(new Model());
    private final Island island;
    private final StringBuilder told = new StringBuilder();
    private int wrong = 0;

    private ModelTest(long seed) {
        random = new Random(seed);
        island = new Island(random);
    }

    public static void main(String[] args) {
        int runs = args.length > 0 ? Integer.parseInt(args[0]) : 120;
        int first = args.length > 1 ? Integer.parseInt(args[1]) : 0;
        int wrong = 0;
        for (int seed = first; seed < first + runs && wrong < 5; seed++) {
            ModelTest test = new ModelTest(seed);
            test.run();
            if (test.wrong > 0) {
                System.out.println("ModelTest, seed " + seed + ":\n" + test.told);
                wrong++;
            }
        }
        if (wrong > 0) {
            System.exit(1);
        }
    }

    private void run() {
        if (random.nextInt(10) > 0) {
            tell(island.text());
        }
        for (int i = 0; i < 60 && wrong == 0; i++) {
            int kind = random.nextInt(40);
            if (kind == 0) {
                tell(island.text());
            } else if (kind <= 2) {
                tell(island.broken(island.text()));
            } else {
                ask(ASKED[random.nextInt(ASKED.length)]);
            }
        }
        same("state", real.state(), plain.state());
    }

    private void tell(String text) {
        told.append("tell ").append(text.replace('\n', ' ')).append('\n');
        same("tell", real.tell(text), plain.tell(text));
        same("fault place", real.call("fault", 1), plain.call("fault", 1));
    }

    private void same(String what, String got, String due) {
        if (!got.equals(due)) {
            told.append(what).append(" answered ").append(got).append(", due is ").append(due).append('\n');
            wrong++;
        }
    }

    private String call(String name, long... args) {
        told.append(name).append(java.util.Arrays.toString(args));
        String due = plain.call(name, args);
        String got = real.call(name, args);
        told.append(" = ").append(due).append('\n');
        same(name, got, due);
        return due;
    }

    private int upTo(int n) {
        // Now and then one beyond the bounds, at either end.
        return random.nextInt(25) == 0 ? (random.nextBoolean() ? -1 : n + 1) : random.nextInt(n + 1);
    }

    private int place() {
        return upTo(Math.max(1, island.wide * island.high) - 1);
    }

    private int pair() {
        int pairs = Integer.parseInt(real.call("count", 3));
        return upTo(Math.max(1, pairs) - 1);
    }

    /** A row that can be judged, run as errands, or taken for what was seen. */
    private void row() {
        int tray = random.nextInt(4);
        int kind = random.nextInt(3);
        int sort = random.nextInt(20) == 0 ? 0 : 1 + random.nextInt(3);
        int many = kind == 0 ? random.nextInt(12) : kind == 1 ? 1 + random.nextInt(4) : 1 + random.nextInt(8);
        if (random.nextInt(15) == 0) {
            many = random.nextInt(31);
        }
        call("tray", tray, sort, many);
        for (int i = 0; i < many; i++) {
            long v = kind == 0 ? toldDeed() : kind == 1 ? 100 * random.nextInt(2) + place() : watched();
            call("write", tray, i, v);
        }
        if (kind == 0) {
            for (int what = 0; what < 4; what++) {
                call("judge", tray, what);
            }
            call("perform", tray);
        } else {
            int p = pair();
            call(kind == 1 ? "errands" : "other", p, tray);
            call(kind == 1 ? "dropped" : "fits", p, tray);
            call(kind == 1 ? "errands" : "look", p, tray);
        }
    }

    private long watched() {
        return random.nextInt(3) > 0 ? Model.NONE : place();
    }

    private long toldDeed() {
        int[] wild = {-2, 399, 400, 999, 1000, 1039, 1040, 1999, 2000, 2009, 2010, 5, 50, 405, 1 << 20};
        switch (random.nextInt(12)) {
            case 0: return wild[random.nextInt(wild.length)];
            case 1: return (long) random.nextInt(400) + (random.nextInt(20) == 0 ? 1L << 32 : 0);
            case 2: return 1000 + 10 * Math.max(0, pair()) + random.nextInt(10);
            case 3: return 2000 + random.nextInt(10);
            case 4: case 5: return Model.NONE;
            default: return 100 * Math.max(0, pair()) + 10 * random.nextInt(5) + random.nextInt(5);
        }
    }

    private void ask(String name) {
        switch (name) {
            case "row": row(); break;
            case "place": call(name, place()); break;
            case "pair": call(name, pair(), upTo(6)); break;
            case "house": call(name, upTo(8)); break;
            case "length": call(name, pair(), random.nextInt(3) == 0 ? upTo(999) : upTo(30)); break;
            case "may": call(name, pair(), upTo(1), place(), random.nextInt(3) == 0 ? upTo(999) : upTo(30)); break;
            case "step": call(name, pair(), upTo(4), upTo(4)); break;
            case "tie": call(name, pair(), upTo(random.nextBoolean() ? 2 : 9)); break;
            case "rain": call(name, upTo(9), random.nextInt(3) == 0 ? upTo(99) : upTo(5)); break;
            case "hours": call(name, random.nextInt(3) == 0 ? upTo(99) : upTo(3)); break;
            case "undo": call(name, random.nextInt(3) == 0 ? upTo(10) : 1); break;
            case "judge": call(name, upTo(3), upTo(3)); break;
            case "perform": call(name, upTo(3)); break;
            case "season": call(name, random.nextInt(), random.nextInt(3) == 0 ? upTo(30) : upTo(4)); break;
            case "partsIn": case "lasts": call(name, pair()); break;
            case "reach": call(name, pair(), upTo(1), hoursToCome()); break;
            case "together": case "farthest": call(name, pair(), hoursToCome()); break;
            case "meal": call(name, pair(), upTo(1)); break;
            case "soonest": case "leastRope": case "needed": case "clear":
                call(name, pair(), place(), place()); break;
            case "leads": leads(); break;
            case "ways": call(name, pair(), place(), place(), upTo(8)); break;
            case "alone": case "costs": call(name, pair(), upTo(1), place()); break;
            case "shortest": shortest(); break;
            case "housed": case "dear": call(name); break;
            case "count": call(name, upTo(10)); break;
            case "fault": call(name, upTo(1)); break;
            case "image": case "restore": call(name, upTo(2)); break;
            case "copy": copy(); break;
            case "tray": call(name, upTo(3), upTo(3), upTo(30)); break;
            case "write": call(name, upTo(3), upTo(8), random.nextInt(4) == 0 ? random.nextLong() : toldDeed()); break;
            default: call(name, pair(), upTo(3)); break;
        }
    }

    private int hoursToCome() {
        return random.nextInt(3) == 0 ? upTo(40) : upTo(6);
    }

    private void leads() {
        int p = pair();
        int j = place();
        int k = place();
        for (int i = 0; i < 12; i++) {
            call("leads", p, j, k, i);
        }
    }

    private void shortest() {
        call("shortest", 0);
        for (int what = 9; what <= 18; what++) {
            call("shortest", what);
        }
    }

    private void copy() {
        int t = upTo(3);
        call("tray", t, 1 + random.nextInt(3), upTo(9));
        int p = pair();
        call("copy", t, p, place(), place());
        call("judge", t, 0);
        call("perform", t);
    }
}
