import java.lang.reflect.InvocationTargetException;
import java.lang.reflect.Method;
import java.nio.charset.StandardCharsets;

/** What the tests share: counting wrong answers, and feeding a text to an object. */
final class Checks {
    private static int made = 0;
    private static int wrong = 0;

    private Checks() {
    }

    static void due(String call, long got, long want) {
        made++;
        if (got != want) {
            wrong++;
            if (wrong <= 50) {
                System.out.println(call + " answered " + got + ", due is " + want);
            }
        }
    }

    static void due(String call, boolean got, boolean want) {
        due(call, got ? 1 : 0, want ? 1 : 0);
    }

    /** A call that gives true, and the FRACTION that it tells. */
    static void dueFraction(String call, TwoLeash x, boolean got, long top, long bottom) {
        due(call, got, true);
        due(call + " status", x.status(), 0);
        due(call + " top", x.top(), top);
        due(call + " bottom", x.bottom(), bottom);
    }

    /** A call that is refused: NONE (or 0 of a boolean), and its STATUS. */
    static void dueRefused(String call, TwoLeash x, int got, int status) {
        due(call, got, TwoLeash.NONE);
        due(call + " status", x.status(), status);
    }

    static void dueRefused(String call, TwoLeash x, boolean got, int status) {
        due(call, got, false);
        due(call + " status", x.status(), status);
    }

    /** A call that gives a number with STATUS 0. */
    static void dueFine(String call, TwoLeash x, int got, int want) {
        due(call, got, want);
        due(call + " status", x.status(), 0);
    }

    /** The answer of a call told as a text, as "near(0, 1, 1, 0)"; true counts 1, false 0. */
    static long call(TwoLeash x, String told) {
        int open = told.indexOf('(');
        String[] numbers = told.substring(open + 1, told.length() - 1).split(", *");
        for (Method method : TwoLeash.class.getDeclaredMethods()) {
            if (method.getName().equals(told.substring(0, open))) {
                Object[] given = new Object[method.getParameterCount()];
                for (int i = 0; i < given.length; i++) {
                    boolean truth = method.getParameterTypes()[i] == boolean.class;
                    given[i] = truth ? Boolean.valueOf(numbers[i]) : Integer.valueOf(numbers[i]);
                }
                return answer(x, method, given);
            }
        }
        throw new IllegalArgumentException(told);
    }

    private static long answer(TwoLeash x, Method method, Object[] given) {
        try {
            Object got = method.invoke(x, given);
            return got instanceof Boolean truth ? (truth ? 1 : 0) : ((Number) got).longValue();
        } catch (IllegalAccessException | InvocationTargetException fault) {
            throw new IllegalStateException(fault);
        }
    }

    /** The bytes of a text, in feeds of twenty with blanks behind. */
    static int[][] feeds(String text) {
        byte[] bytes = text.getBytes(StandardCharsets.ISO_8859_1);
        int[][] feeds = new int[(bytes.length + 19) / 20][5];
        for (int at = 0; at < feeds.length * 20; at++) {
            int value = at < bytes.length ? bytes[at] & 255 : 32;
            feeds[at / 20][at % 20 / 4] |= value << 24 - 8 * (at % 4);
        }
        return feeds;
    }

    static int load(TwoLeash x, String text) {
        for (int[] f : feeds(text)) {
            x.feed(f[0], f[1], f[2], f[3], f[4]);
        }
        return x.load(text.length());
    }

    static TwoLeash loaded(String text) {
        TwoLeash x = new TwoLeash();
        due("load of " + text, load(x, text), text.split("way ", -1).length - 1);
        return x;
    }

    static String printed(TwoLeash x) {
        StringBuilder text = new StringBuilder();
        int bytes = x.print();
        for (int i = 0; i < bytes; i++) {
            text.append((char) x.out(i));
        }
        return text.toString();
    }

    static void duePrinted(String call, TwoLeash x, String want) {
        String got = printed(x);
        due(call + " prints " + got + " for " + want, got.equals(want), true);
    }

    static void end() {
        System.out.println(made + " answers, " + wrong + " not as due");
        if (wrong != 0 || made == 0) {
            System.exit(1);
        }
    }
}
