import java.io.File;
import java.io.IOException;
import java.lang.reflect.Constructor;
import java.lang.reflect.Field;
import java.lang.reflect.Method;
import java.lang.reflect.Modifier;
import java.nio.file.Files;
import java.util.ArrayList;
import java.util.List;
import java.util.Map;
import java.util.TreeMap;
import java.util.TreeSet;
import java.util.regex.Matcher;
import java.util.regex.Pattern;

/** The face is the document's and nothing more; no call throws what it doesn't name, for any arguments. */
public final class FaceTest {
    private static final String[] FACE = {
        "int feed(int,int,int,int,int)", "int island(int) IAE", "int fault(int)", "int place(int) NSE",
        "int pair(int,int) NSE IAE", "int house(int) NSE", "int length(int,int) NSE IAE",
        "boolean may(int,int,int,int) NSE IAE ISE", "int step(int,int,int)", "int tie(int,int) NSE IAE",
        "int rain(int,int) IAE", "int hours(int) IAE", "int undo(int) IAE", "int judge(int,int) NSE ISE IAE",
        "int perform(int) NSE ISE", "int season(int,int) IAE", "int partsIn(int) NSE", "int lasts(int) NSE",
        "int reach(int,int,int) NSE IAE", "int together(int,int) NSE IAE", "int meal(int,int) NSE IAE",
        "int farthest(int,int) NSE IAE", "int soonest(int,int,int) NSE", "int leads(int,int,int,int) NSE IAE",
        "long ways(int,int,int,int) NSE IAE", "int alone(int,int,int) NSE IAE", "int costs(int,int,int) NSE IAE",
        "int leastRope(int,int,int) NSE", "int needed(int,int,int) NSE", "int clear(int,int,int) NSE",
        "int errands(int,int) NSE ISE IAE", "int dropped(int,int) NSE ISE IAE", "int housed()",
        "int shortest(int) IAE", "int dear()", "int other(int,int) NSE ISE IAE", "long fits(int,int) NSE ISE IAE",
        "int look(int,int) NSE ISE IAE", "void tray(int,int,int) NSE IAE", "long write(int,int,long) NSE ISE IOOBE",
        "int copy(int,int,int,int) NSE ISE", "void image(int) NSE", "void restore(int) NSE ISE", "int count(int)"};
    private static final Map<String, String> SHORT = Map.of("NoSuchElementException", "NSE",
            "IllegalArgumentException", "IAE", "IllegalStateException", "ISE", "IndexOutOfBoundsException", "IOOBE");
    private static final Check T = new Check();

    public static void main(String[] args) throws IOException {
        face();
        inside();
        anyArguments();
        Check.end();
    }

    private static void face() {
        T.promise("the face");
        Class<?> c = RopeWeds.class;
        TreeSet<String> due = new TreeSet<>(List.of(FACE));
        TreeSet<String> got = new TreeSet<>();
        TreeSet<String> names = new TreeSet<>();
        for (Method m : c.getDeclaredMethods()) {
            if (Modifier.isPrivate(m.getModifiers()) || m.isSynthetic()) {
                continue;
            }
            StringBuilder s = new StringBuilder(m.getReturnType() + " " + m.getName() + "(");
            for (Class<?> p : m.getParameterTypes()) {
                s.append(s.charAt(s.length() - 1) == '(' ? "" : ",").append(p);
            }
            s.append(")");
            for (Class<?> e : m.getExceptionTypes()) {
                s.append(' ').append(SHORT.get(e.getSimpleName()));
            }
            got.add(s.toString());
            names.add(m.getName());
            if (!Modifier.isPublic(m.getModifiers()) || Modifier.isStatic(m.getModifiers())) {
                T.report(m + " is no public method of an object");
            }
        }
        T.same("the methods", due.toString(), got.toString());
        for (Constructor<?> k : c.getDeclaredConstructors()) {
            if (!k.toString().equals("public RopeWeds()")) {
                T.report("a constructor " + k);
            }
        }
        List<Class<?>> all = new ArrayList<>(List.of(c.getDeclaredClasses()));
        for (Class<?> inner : all) {
            if (!Modifier.isStatic(inner.getModifiers()) || Modifier.isPublic(inner.getModifiers())) {
                T.report(inner + " is not static, or public");
            }
            for (Method m : inner.getDeclaredMethods()) {
                if (names.contains(m.getName())) {
                    T.report(m + " bears a name of the face");
                }
            }
        }
        all.add(c);
        if (!Modifier.isFinal(c.getModifiers()) || c.getSuperclass() != Object.class || all.size() > 12) {
            T.report("the class itself");
        }
        for (Class<?> one : all) {
            fields(one, one == c);
        }
    }

    private static void fields(Class<?> c, boolean face) {
        int own = 0;
        for (Field f : c.getDeclaredFields()) {
            boolean fixed = Modifier.isStatic(f.getModifiers());
            own += fixed ? 0 : 1;
            if (fixed && !Modifier.isFinal(f.getModifiers())) {
                T.report(f + " is not final");
            }
            boolean none = f.toString().equals("public static final int RopeWeds.NONE");
            if (face && !none && !Modifier.isPrivate(f.getModifiers())) {
                T.report(f + " is not private");
            }
        }
        if (own > 20) {
            T.report(c + " has " + own + " fields");
        }
        if (RopeWeds.NONE != -1) {
            T.report("NONE");
        }
    }

    /** What can be seen of ../shared/LANGUAGE.md in the text alone. */
    private static void inside() throws IOException {
        T.promise("the language");
        File source = new File("src/main/java/RopeWeds.java");
        if (!source.exists()) {
            T.report("run from the project's directory: no " + source);
            return;
        }
        String text = Files.readString(source.toPath());
        String code = text.replaceAll("(?s)/\\*.*?\\*/", "").replaceAll("//.*", "");
        String bare = code.replaceAll("\"[^\"\n]*\"", "\"\"");
        String[] never = {"\\bfinally\\b", "\\bcatch\\b", "\\btry\\b", "->", "::", "\\bsynchronized\\b", "\\bassert\\b",
            "\\bvar\\b", "\\bpackage\\b", "\"\" *\\+", "\\+ *\"\"", "Exact\\b", "\\bSystem\\.(?!arraycopy)", "\\brecord\\b",
            "\\bhashCode\\b", "\\btoString\\b", "\\bthis\\b", "\\bdouble\\b", "\\bfloat\\b", "\\bObject\\b"};
        for (String one : never) {
            Matcher m = Pattern.compile(one).matcher(bare);
            if (m.find()) {
                T.report(m.group() + " stands in the class");
            }
        }
        Matcher imports = Pattern.compile("\\bimport ([^;]*);").matcher(bare);
        while (imports.find()) {
            if (!List.of("java.util.Arrays", "java.util.NoSuchElementException").contains(imports.group(1))) {
                T.report("it imports " + imports.group(1));
            }
        }
        if (text.chars().anyMatch(c -> c > 126)) {
            T.report("a sign beyond 126 stands in the class");
        }
        shortMethods(bare);
    }

    private static void shortMethods(String code) {
        Matcher m = Pattern.compile("(?m)^( {4,8})(?!.*\\b(class|new|return)\\b)\\w[^=;\n]*\\([^;{]*\\{\n").matcher(code);
        int many = 0;
        while (m.find()) {
            many++;
            String end = "\n" + m.group(1) + "}\n";
            int to = code.indexOf(end, m.end() - 1);
            long lines = code.substring(m.start(), Math.max(m.start(), to)).lines().count();
            if (lines > 60) {
                T.report(m.group().trim() + " has " + lines + " lines");
            }
            String head = m.group().replaceAll("\\) *throws.*|\\{\n", "");
            if (head.chars().filter(c -> c == ',').count() > 6) {
                T.report(head + " takes too many");
            }
        }
        if (many < 100) {
            T.report("only " + many + " methods were looked at");
        }
    }

    private static final long[] WILD = {0, 1, -1, 2, 3, 4, 5, 7, 8, 9, 10, 11, 17, 20, 24, 25, 26, 30, 31, 32, 33, 40, 41,
        64, 99, 100, 255, 256, 999, 1000, 2000, -2, -31, -32, -33, Integer.MAX_VALUE, Integer.MIN_VALUE,
        Integer.MAX_VALUE - 1, Integer.MIN_VALUE + 1, 1 << 30};

    private static void anyArguments() {
        Map<String, TreeSet<String>> throwing = new TreeMap<>();
        Map<String, Integer> takes = new TreeMap<>();
        for (String one : FACE) {
            String name = one.substring(one.indexOf(' ') + 1, one.indexOf('('));
            String within = one.substring(one.indexOf('(') + 1, one.indexOf(')'));
            takes.put(name, within.isEmpty() ? 0 : within.split(",").length);
            throwing.put(name, new TreeSet<>());
            for (Map.Entry<String, String> e : SHORT.entrySet()) {
                if (List.of(one.split(" ")).contains(e.getValue())) {
                    throwing.get(name).add("throws." + e.getKey());
                }
            }
        }
        java.util.Random random = new java.util.Random(7);
        List<String> names = new ArrayList<>(takes.keySet());
        for (int run = 0; run < 300; run++) {
            T.promise("any arguments, run " + run);
            Island island = new Island(random);
            for (int i = 0; i < 150; i++) {
                String name = names.get(random.nextInt(names.size()));
                if (random.nextInt(12) == 0) {
                    T.face.tell(random.nextInt(3) == 0 ? island.broken(island.text()) : island.text());
                }
                long[] args = new long[takes.get(name)];
                int wild = random.nextInt(3);
                for (int k = 0; k < args.length; k++) {
                    args[k] = wild == 0 ? WILD[random.nextInt(WILD.length)] : random.nextInt(wild == 1 ? 5 : 26);
                }
                String got = T.face.call(name, args);
                if (got.startsWith("throws.") && !throwing.get(name).contains(got)) {
                    T.report(name + java.util.Arrays.toString(args) + " answered " + got);
                }
            }
        }
    }
}
