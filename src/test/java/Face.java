import java.lang.reflect.InvocationTargetException;
import java.lang.reflect.Method;
import java.nio.charset.StandardCharsets;
import java.util.ArrayList;
import java.util.List;
import java.util.Map;
import java.util.TreeMap;

/** Calls by name on RopeWeds and on Model alike, and the telling of texts. */
final class Face {
    private final Object object;
    private final Map<String, Method> methods = new TreeMap<>();
    /** The calls that made the object what it is, so that another can be made alike. */
    private final List<Call> told = new ArrayList<>();
    private boolean asking = false;

    private static final class Call {
        final String name;
        final long[] args;

        Call(String name, long[] args) {
            this.name = name;
            this.args = args.clone();
        }
    }

    Face(Object object) {
        this.object = object;
        for (Method m : object.getClass().getDeclaredMethods()) {
            if (java.lang.reflect.Modifier.isPublic(m.getModifiers())) {
                m.setAccessible(true);
                methods.put(m.getName(), m);
            }
        }
    }

    /** What a call answers, as a text; an exception as throws. and its name. */
    String call(String name, long... args) {
        if (!asking) {
            told.add(new Call(name, args));
        }
        Method m = methods.get(name);
        Class<?>[] types = m.getParameterTypes();
        if (types.length != args.length) {
            throw new IllegalStateException(name + " takes " + types.length);
        }
        Object[] boxed = new Object[types.length];
        for (int i = 0; i < types.length; i++) {
            boxed[i] = types[i] == long.class ? (Object) args[i] : (Object) (int) args[i];
        }
        try {
            return String.valueOf(m.invoke(object, boxed));
        } catch (InvocationTargetException e) {
            return "throws." + e.getCause().getClass().getSimpleName();
        } catch (IllegalAccessException e) {
            throw new IllegalStateException(e);
        }
    }

    /** Puts a text on an empty tape and reads it. */
    String tell(String text) {
        return tell(text.getBytes(StandardCharsets.ISO_8859_1));
    }

    String tell(byte[] text) {
        feed(text);
        return call("island", text.length);
    }

    void feed(byte[] text) {
        for (int i = 0; i < text.length; i += 20) {
            long[] words = new long[5];
            for (int j = 0; j < 20; j++) {
                int b = i + j < text.length ? text[i + j] & 255 : ' ';
                words[j / 4] = words[j / 4] << 8 | b;
            }
            call("feed", words);
        }
    }

    /** Another object on which the same calls were made. */
    Face twin() {
        Face other;
        try {
            other = new Face(object.getClass().getDeclaredConstructor().newInstance());
        } catch (ReflectiveOperationException e) {
            throw new IllegalStateException(e);
        }
        for (Call c : told) {
            other.call(c.name, c.args);
        }
        return other;
    }

    /** How many calls were told to the object. */
    int calls() {
        return told.size();
    }

    private int number(String call, long... args) {
        return Integer.parseInt(call(call, args));
    }

    private void ask(StringBuilder all, String call, long... args) {
        all.append(call(call, args)).append(' ');
    }

    /** What deeds change, in a few calls. */
    private void brief(StringBuilder all) {
        all.append("| ");
        for (int what = 6; what <= 9; what++) {
            ask(all, "count", what);
        }
        int pairs = number("count", 3);
        for (int p = 0; p < pairs; p++) {
            ask(all, "pair", p, 1);
            ask(all, "pair", p, 2);
            ask(all, "pair", p, 3);
        }
    }

    /**
     * All that is in the object, what only comes to light by further calls too: deeds that can be undone,
     * images, rows, the tape. The object is another one then.
     */
    String depths() {
        StringBuilder all = new StringBuilder();
        ask(all, "count", 0);
        ask(all, "fault", 0);
        ask(all, "fault", 1);
        shown(all);
        for (int t = 0; t < 4; t++) {
            for (int what = 0; what < 4; what++) {
                ask(all, "judge", t, what);
            }
        }
        for (int left = number("count", 9); left > 0; left--) {
            ask(all, "undo", 1);
            brief(all);
        }
        for (int i = 0; i < 3; i++) {
            ask(all, "restore", i);
            brief(all);
            ask(all, "undo", number("count", 9));
            brief(all);
        }
        for (int t = 0; t < 4; t++) {
            ask(all, "perform", t);
            brief(all);
            boolean there = true;
            for (int i = 0; i <= 30 && there; i++) {
                String got = call("write", t, i, 0x8182838485868788L);
                all.append(got).append(' ');
                there = !got.startsWith("throws.");
            }
        }
        int bytes = number("count", 10);
        all.append("| ").append(bytes).append(' ');
        ask(all, "island", bytes);
        ask(all, "fault", 0);
        ask(all, "fault", 1);
        shown(all);
        return all.toString();
    }

    private void shown(StringBuilder all) {
        brief(all);
        int places = number("count", 1) * number("count", 2);
        for (int k = 0; k < places; k++) {
            ask(all, "place", k);
        }
        int houses = number("count", 4);
        for (int h = 0; h < houses; h++) {
            ask(all, "house", h);
        }
        int pairs = number("count", 3);
        for (int p = 0; p < pairs; p++) {
            ask(all, "pair", p, 0);
            ask(all, "pair", p, 6);
            for (int n = 0; n < 30; n += 7) {
                ask(all, "length", p, n);
            }
            ask(all, "reach", p, 0, 3);
            ask(all, "reach", p, 1, 2);
        }
    }

    /** All that can be asked without changing anything, in one text. */
    String state() {
        asking = true;
        StringBuilder all = new StringBuilder();
        for (int what = 0; what <= 10; what++) {
            all.append(call("count", what)).append(' ');
        }
        all.append(call("fault", 0)).append(' ').append(call("fault", 1)).append(" | ");
        for (int k = 0; k < 26; k++) {
            all.append(call("place", k)).append(' ');
        }
        for (int h = 0; h < 9; h++) {
            all.append(call("house", h)).append(' ');
        }
        for (int p = 0; p < 5; p++) {
            all.append("| ");
            for (int what = 0; what <= 6; what++) {
                all.append(call("pair", p, what)).append(' ');
            }
            all.append(call("length", p, 1)).append(' ').append(call("partsIn", p)).append(' ');
        }
        all.append("| ");
        for (int t = 0; t < 4; t++) {
            // A write beyond the row's end throws; which it throws tells whether the row is there.
            all.append(call("write", t, 30, 0)).append(' ');
            for (int what = 0; what < 4; what++) {
                all.append(call("judge", t, what)).append(' ');
            }
        }
        asking = false;
        return all.toString();
    }
}
