import java.lang.reflect.Method;
import java.util.ArrayList;
import java.util.Arrays;
import java.util.HashMap;
import java.util.List;
import java.util.Map;
import java.util.Random;

/**
 * Runs of calls, the same ones each time, on an object and on the oracle: each answer, STATUS and FRACTION
 * must be the same.
 */
public final class RandomRunsTest {
    /** What each call takes: w WAY, p POINT or EDGE, e a leash (two numbers), q what or kind, k, c coordinate, b boolean, s anything. */
    private static final String[] CALLS = {
        "status", "top", "bottom", "fault q", "many q", "way wx", "square wpwp", "near wpwp", "nearest wpw",
        "farthest ww", "meets wwq", "bends wq", "free wwbppeq", "free wwbppeq", "low wwbppe", "low wwbppe", "low wwbppe",
        "sides wweq", "sides wweq", "enough wwqe", "enough wwqe", "shortest wwq", "criticals wwk", "critical wwk",
        "walk wwekb", "walk wwekb", "hops wwkb", "sums wwq", "reach wweq", "reach wweq", "piece wwq", "pieces ww", "ring ww",
        "thinned weq", "thinned weq", "kin w", "middle", "groups we", "groups we", "without wpw", "turned wwq", "print", "out k",
        "move wpcc", "add wpcc", "drop wp", "turn w", "undo"
    };

    private static final Map<String, Method> REAL = new HashMap<>();
    private static final Map<String, Method> ORACLE = new HashMap<>();

    private final Random random;
    private final int widest;
    private final int mostPoints;
    private TwoLeash real = new TwoLeash();
    private Oracle oracle = new Oracle();
    private String text = "";

    private RandomRunsTest(long seed) {
        random = new Random(seed);
        int[] widths = {2, 4, 7, 18, 18};
        widest = widths[random.nextInt(widths.length)];
        int[] points = {3, 4, 5, 8};
        mostPoints = points[random.nextInt(points.length)];
    }

    public static void main(String[] args) throws Exception {
        for (Method m : TwoLeash.class.getDeclaredMethods()) {
            REAL.put(m.getName(), m);
        }
        for (Method m : Oracle.class.getDeclaredMethods()) {
            ORACLE.put(m.getName(), m);
        }
        int runs = args.length > 0 ? Integer.parseInt(args[0]) : 600;
        int from = args.length > 1 ? Integer.parseInt(args[1]) : 0;
        for (int seed = from; seed < from + runs; seed++) {
            new RandomRunsTest(seed).run();
        }
        Checks.end();
    }

    private void run() throws Exception {
        for (int n = 0; n < 70; n++) {
            if (n == 2 || random.nextInt(45) == 0) {
                loadText(n == 2 ? 0 : 1);
            }
            String[] call = CALLS[random.nextInt(CALLS.length)].split(" ");
            compare(call[0], arguments(call.length > 1 ? call[1] : ""));
        }
    }

    private void compare(String name, Object... given) throws Exception {
        Object got = REAL.get(name).invoke(real, given);
        Object want = ORACLE.get(name).invoke(oracle, given);
        String call = name + Arrays.toString(given) + " with " + text;
        Checks.due(call, number(got), number(want));
        Checks.due("status behind " + call, real.status(), oracle.status());
        Checks.due("top behind " + call, real.top(), oracle.top());
        Checks.due("bottom behind " + call, real.bottom(), oracle.bottom());
    }

    private static long number(Object answer) {
        if (answer instanceof Boolean truth) {
            return truth ? 1 : 0;
        }
        return ((Number) answer).longValue();
    }

    private Object[] arguments(String kinds) {
        Object[] given = new Object[kinds.length() + (kinds.indexOf('e') >= 0 ? 1 : 0)];
        int at = 0;
        for (char kind : kinds.toCharArray()) {
            if (kind == 'e') {
                int[] leash = leash();
                given[at++] = leash[0];
                given[at++] = leash[1];
            } else if (kind == 'b') {
                given[at++] = random.nextBoolean();
            } else {
                given[at++] = number(kind);
            }
        }
        return given;
    }

    private int number(char kind) {
        if (random.nextInt(60) == 0) {
            int[] wild = {-1, -2, 4, 8, 19, 99, 700, Integer.MIN_VALUE, Integer.MAX_VALUE};
            return wild[random.nextInt(wild.length)];
        }
        int ways = oracle.held().size();
        switch (kind) {
            case 'w':
                return random.nextInt(Math.max(1, ways)) - (random.nextInt(40) == 0 ? 1 : 0);
            case 'p':
                return random.nextInt(Math.min(8, mostPoints + 1));
            case 'q':
                return random.nextInt(3);
            case 'k':
                return random.nextInt(4) == 0 ? -1 : random.nextInt(random.nextBoolean() ? 4 : 15);
            case 'x':
                return random.nextInt(30);
            default:
                return random.nextInt(widest + 1);
        }
    }

    private int[] leash() {
        int ways = oracle.held().size();
        if (ways >= 2 && random.nextInt(4) > 0) {
            int w = random.nextInt(ways);
            int o = (w + 1 + random.nextInt(ways - 1)) % ways;
            return nearCritical(w, o);
        }
        int[] leashes = {0, 1, 2, 4, 5, widest * widest / 4, widest * widest, 648, 100000, 100001, -1};
        int n = leashes[random.nextInt(leashes.length)] + random.nextInt(3);
        int d = random.nextInt(30) == 0 ? 1001 - random.nextInt(2) * 1001 : 1 + random.nextInt(4);
        return new int[] {n, d};
    }

    /** A CRITICAL, if its fraction is not too long, or what is just above or below it. */
    private int[] nearCritical(int w, int o) {
        List<Oracle.Q> all = new ArrayList<>(Oracle.allCriticals(oracle.held().get(w), oracle.held().get(o)));
        Oracle.Q told = null;
        for (int tries = 0; tries < 8; tries++) {
            told = all.get(random.nextInt(all.size()));
            if (told.d().intValue() <= 1000 && told.n().longValue() <= 100000) {
                int n = told.n().intValue();
                int d = told.d().intValue();
                int more = Math.max(1, Math.min(1000 / d, 100000 / Math.max(1, n)));
                int by = 1 + random.nextInt(more);
                int aside = random.nextInt(5) == 0 ? random.nextInt(3) - 1 : 0;
                return new int[] {n * by + aside, d * by};
            }
        }
        int d = 1000;
        return new int[] {(int) Math.min(100000, told.n().longValue() * d / told.d().longValue() + random.nextInt(2)), d};
    }

    private void loadText(int spoiled) throws Exception {
        text = newText();
        String given = spoiled == 0 ? text : spoil(text);
        if (given.length() > 700) {
            return;
        }
        for (int[] f : Checks.feeds(given)) {
            compare("feed", f[0], f[1], f[2], f[3], f[4]);
        }
        int n = given.length();
        if (random.nextInt(12) == 0) {
            n += random.nextInt(60) - 30;
        }
        compare("load", n);
        if (n != given.length()) {
            compare("load", Math.max(0, Math.min(n, given.length())));
        }
        compare("fault", 0);
        compare("fault", 1);
    }

    private String newText() {
        StringBuilder made = new StringBuilder();
        int ways = 1 + random.nextInt(random.nextInt(3) == 0 ? 4 : 3) + (random.nextInt(10) == 0 ? 1 : 0);
        for (int w = 0; w < Math.min(ways, 4); w++) {
            made.append("way ").append((char) ('a' + w)).append(random.nextInt(9) == 0 ? "bcdefgh" : "");
            int count = 2 + random.nextInt(mostPoints - 1);
            int lastX = -1;
            int lastY = -1;
            for (int i = 0; i < count; i++) {
                int x = random.nextInt(widest + 1);
                int y = random.nextInt(widest + 1);
                if (x == lastX && y == lastY) {
                    x = x == 0 ? 1 : x - 1;
                }
                made.append(random.nextInt(9) == 0 ? "\n " : " ").append(x).append(' ').append(y);
                lastX = x;
                lastY = y;
            }
            made.append(random.nextInt(9) == 0 ? " ;\n" : ";");
        }
        return made.toString();
    }

    private String spoil(String whole) {
        StringBuilder made = new StringBuilder(whole);
        String signs = " \n;way0129Z-\t" + (char) 233 + (char) 0;
        for (int n = random.nextInt(3); n > 0; n--) {
            int at = random.nextInt(made.length());
            int how = random.nextInt(4);
            if (how == 0) {
                made.setCharAt(at, signs.charAt(random.nextInt(signs.length())));
            } else if (how == 1) {
                made.deleteCharAt(at);
            } else if (how == 2) {
                made.insert(at, signs.charAt(random.nextInt(signs.length())));
            } else {
                int end = made.lastIndexOf(";");
                made.insert(Math.max(0, end), " 3 4 5 6 17 18");
            }
        }
        if (random.nextInt(8) == 0) {
            made.append("way x 1 1 2 2;way y 1 1 2 2; way z 1 1 2 2;");
        }
        return made.toString();
    }
}
