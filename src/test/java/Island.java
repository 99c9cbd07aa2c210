import java.util.ArrayList;
import java.util.Collections;
import java.util.List;
import java.util.Random;

/** Texts of islands by a seeded source, right ones and broken ones. */
final class Island {
    private static final String[] TOKENS = {"island", "rock", "house", "pair", "at", "and", "knots", "length", "may",
        "rain", "for", "hour", "or", "not", "rope", "x", "y", "who", ";", ":", "+", "-", "*", "(", ")", "[", "]", "=",
        "<", ">", "0", "1", "2", "3", "4", "5", "9", "20", "21", "99", "100", "999", "1000", "0001", "007", "in",
        "islands", "X", "#", "not not not", "((((", "[[[["};

    private final Random random;
    int wide;
    int high;
    private boolean forMay;

    Island(Random random) {
        this.random = random;
    }

    private boolean chance(int percent) {
        return random.nextInt(100) < percent;
    }

    String text() {
        wide = 2 + random.nextInt(4);
        high = 2 + random.nextInt(4);
        List<Integer> spots = new ArrayList<>();
        for (int k = 0; k < wide * high; k++) {
            spots.add(k);
        }
        Collections.shuffle(spots, random);
        int rocks = random.nextInt(1 + wide * high / 3);
        List<Integer> bare = spots.subList(rocks, spots.size());
        List<String> lines = new ArrayList<>();
        for (int i = 0; i < rocks; i++) {
            lines.add("rock " + spot(spots.get(i)));
        }
        int houses = Math.min(bare.size(), random.nextInt(9));
        for (int i = 0; i < houses; i++) {
            lines.add("house " + spot(bare.get(i)));
        }
        int pairs = chance(90) ? 1 + random.nextInt(4) : 0;
        for (int i = 0; i < pairs; i++) {
            String line = "pair " + (chance(80) ? 1 + random.nextInt(6) : 1 + random.nextInt(20)) + " at "
                    + spot(bare.get(random.nextInt(bare.size()))) + " and "
                    + spot(bare.get(random.nextInt(bare.size())));
            lines.add(chance(40) ? line + " knots " + random.nextInt(chance(70) ? 3 : 10) : line);
        }
        addLaws(lines);
        Collections.shuffle(lines, random);
        StringBuilder all = new StringBuilder("island " + wide + " " + high + " ;");
        for (String line : lines) {
            all.append(chance(20) ? "\n" : " ").append(line).append(chance(50) ? " ;" : ";");
        }
        return all.length() <= 880 ? all.toString() : all.substring(0, all.lastIndexOf(";", 870) + 1);
    }

    private void addLaws(List<String> lines) {
        if (chance(60)) {
            lines.add("length : " + lengthLaw());
        }
        if (chance(60)) {
            lines.add("may : " + mayLaw());
        }
        if (chance(10)) {
            lines.add("may:" + mayLaw());
        }
        if (chance(50)) {
            lines.add("rain " + random.nextInt(10) + " for " + (1 + random.nextInt(chance(70) ? 9 : 99)));
        }
        if (chance(50)) {
            lines.add("hour " + random.nextInt(chance(70) ? 30 : 1000));
        }
    }

    private String spot(int k) {
        return k % wide + " " + k / wide;
    }

    private String lengthLaw() {
        String[] usual = {"rope - knots", "rope - knots - rain", "rope + hour - 12", "rope * 2 - hour",
            "rope - rain * knots", "(rope - knots) * (1 + pair)", "rope + rain - knots * (hour - 6)", "3 - rain",
            "rope * rope * 999 * 999 - 999 * 999 + rope", "rope * (13 - hour)", "2 + pair - knots"};
        forMay = false;
        return chance(60) ? usual[random.nextInt(usual.length)] : sum(0);
    }

    private String mayLaw() {
        String[] usual = {"x + y < 6", "not [ x = 1 and y = 1 ]", "who = 0 or hour > 6", "rain < 5 or x > y",
            "hour * x < 30", "pair = 0 or who = 1", "x * y + rain < 7", "not x = y or who = 0", "not not x > 0",
            "[ x = 0 or y = 0 ] or hour > 10", "1 = 1", "who + x > 0 and [rain = 0 or y > 1]"};
        forMay = true;
        return chance(60) ? usual[random.nextInt(usual.length)] : truth(0);
    }

    private String truth(int deep) {
        String all = both(deep);
        return chance(30) ? all + " or " + both(deep) : all;
    }

    private String both(int deep) {
        String all = unit(deep);
        return chance(30) ? all + " and " + unit(deep) : all;
    }

    private String unit(int deep) {
        int kind = random.nextInt(10);
        if (kind < 2 && deep < 6) {
            return "not " + unit(deep + 1);
        }
        if (kind < 4 && deep < 6) {
            return "[" + truth(deep + 1) + "]";
        }
        return sum(deep) + "=<>".charAt(random.nextInt(3)) + sum(deep);
    }

    private String sum(int deep) {
        String all = term(deep);
        for (int i = 0; i < 3 && chance(35); i++) {
            all += (chance(50) ? " + " : "-") + term(deep);
        }
        return all;
    }

    private String term(int deep) {
        String all = atom(deep);
        for (int i = 0; i < 2 && chance(20); i++) {
            all += "*" + atom(deep);
        }
        return all;
    }

    private String atom(int deep) {
        String[] names = forMay ? new String[] {"x", "y", "who", "pair", "rain", "hour"}
                : new String[] {"rope", "rope", "knots", "rain", "hour", "pair"};
        int kind = random.nextInt(10);
        if (kind == 0 && deep < 6) {
            return "(" + sum(deep + 1) + ")";
        }
        if (kind < 4) {
            return "" + random.nextInt(chance(85) ? 8 : 1000);
        }
        return names[random.nextInt(names.length)];
    }

    /** A text with some things wrong, maybe. */
    String broken(String text) {
        StringBuilder all = new StringBuilder(text);
        int times = 1 + random.nextInt(3);
        for (int i = 0; i < times && all.length() > 1; i++) {
            int at = random.nextInt(all.length());
            int end = Math.min(all.length(), at + 1 + random.nextInt(5));
            switch (random.nextInt(6)) {
                case 0: all.delete(at, end); break;
                case 1: all.insert(at, " " + TOKENS[random.nextInt(TOKENS.length)] + " "); break;
                case 2: all.setCharAt(at, (char) random.nextInt(256)); break;
                case 3: all.replace(at, end, " " + TOKENS[random.nextInt(TOKENS.length)] + " "); break;
                case 4: all.setLength(at); break;
                default: all.insert(at, all.substring(at, end)); break;
            }
        }
        return all.length() > 900 ? all.substring(0, 900) : all.toString();
    }
}
