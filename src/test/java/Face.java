import java.lang.reflect.InvocationTargetException;
import java.lang.reflect.Method;
import java.nio.charset.StandardCharsets;
import java.util.Map;
import java.util.TreeMap;

/** Calls by name on RopeWeds and on Model alike, and the telling of texts. */
final class Face {
    private final Object object;
    private final Map<String, Method> methods = new TreeMap<>();

    Face(Object object) {
        this.object = object;
        for (Method m : object.getClass().getDeclaredMethods()) {
            if (java.lang.reflect.Modifier.isPublic(m.getModifiers())) {
                m.setAccessible(true);
                methods.put(m.getName(), m);
            }
        }
    }

    /** What a call answers, as a text; an exception as throws. and its name. */
    String call(String name, long... args) {
        Method m = methods.get(name);
        Class<?>[] types = m.getParameterTypes();
        if (types.length != args.length) {
            throw new IllegalStateException(name + " takes " + types.length);
        }
        Object[] boxed = new Object[types.length];
        for (int i = 0; i < types.length; i++) {
            boxed[i] = types[i] == long.class ? (Object) args[i] : (Object) (int) args[i];
        }
        try {
            return String.valueOf(m.invoke(object, boxed));
        } catch (InvocationTargetException e) {
            return "throws." + e.getCause().getClass().getSimpleName();
        } catch (IllegalAccessException e) {
            throw new IllegalStateException(e);
        }
    }

    /** Puts a text on an empty tape and reads it. */
    String tell(String text) {
        return tell(text.getBytes(StandardCharsets.ISO_8859_1));
    }

    String tell(byte[] text) {
        feed(text);
        return call("island", text.length);
    }

    void feed(byte[] text) {
        for (int i = 0; i < text.length; i += 20) {
            long[] words = new long[5];
            for (int j = 0; j < 20; j++) {
                int b = i + j < text.length ? text[i + j] & 255 : ' ';
                words[j / 4] = words[j / 4] << 8 | b;
            }
            call("feed", words);
        }
    }

    /** All that can be asked without changing anything, in one text. */
    String state() {
        StringBuilder all = new StringBuilder();
        for (int what = 0; what <= 10; what++) {
            all.append(call("count", what)).append(' ');
        }
        all.append(call("fault", 0)).append(' ').append(call("fault", 1)).append(" | ");
        for (int k = 0; k < 26; k++) {
            all.append(call("place", k)).append(' ');
        }
        for (int h = 0; h < 9; h++) {
            all.append(call("house", h)).append(' ');
        }
        for (int p = 0; p < 5; p++) {
            all.append("| ");
            for (int what = 0; what <= 6; what++) {
                all.append(call("pair", p, what)).append(' ');
            }
            all.append(call("length", p, 1)).append(' ').append(call("partsIn", p)).append(' ');
        }
        all.append("| ");
        for (int t = 0; t < 4; t++) {
            // A write beyond the row's end throws; which it throws tells whether the row is there.
            all.append(call("write", t, 30, 0)).append(' ');
            for (int what = 0; what < 4; what++) {
                all.append(call("judge", t, what)).append(' ');
            }
        }
        return all.toString();
    }
}
