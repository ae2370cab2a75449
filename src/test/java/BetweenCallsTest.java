import java.util.ArrayDeque;
import java.util.ArrayList;
import java.util.Deque;
import java.util.LinkedHashMap;
import java.util.List;
import java.util.Map;
import java.util.Random;
import java.util.Set;
import java.util.TreeSet;

/**
 * What holds from one call to the next: STATUS, the FRACTION, the FAULT, the tape, OUT and the ACTS stay as they
 * are till a call that says so changes them.
 */
public final class BetweenCallsTest {
    private static final int NONE = TwoLeash.NONE;

    /** The third WAY is a RING. */
    private static final String TEXT = "way a 0 0 10 0 10 10;way b 0 3 10 3 9 9;way ring 0 0 4 0 4 4 0 0;";

    /**
     * Each call with numbers that it takes, and behind the arrow all that it changes beside STATUS; "no STATUS"
     * where it has none. ACTS change WAYS and what can be undone.
     */
    private static final String[] FINE_CALLS = {
        "status() > no STATUS", "top() > no STATUS", "bottom() > no STATUS", "fault(0) > no STATUS",
        "fault(1) > no STATUS", "fault(2) > no STATUS", "feed(1, 2, 3, 4, 5) > no STATUS TAPE",
        "load(14) > TAPE FAULT WAYS ACTS", "many(0) >", "many(1) >", "many(2) >",
        "way(0, 0) >", "way(0, 1) >", "way(0, 2) >", "way(0, 11) >", "way(0, 22) >", "square(0, 1, 1, 1) >",
        "near(1, 1, 0, 0) > FRACTION", "nearest(1, 2, 0) > FRACTION", "farthest(1, 2) > FRACTION",
        "meets(0, 1, 0) >", "meets(2, 2, 1) >", "bends(2, 0) >",
        "free(0, 1, false, 0, 0, 50, 1, 0) >", "free(0, 1, true, 0, 0, 50, 1, 1) >",
        "low(0, 1, false, 0, 0, 50, 1) >", "sides(0, 1, 50, 1, 1) >",
        "enough(0, 1, 0, 5, 1) >", "enough(0, 1, 1, 90, 1) >", "enough(0, 1, 2, 90, 1) >",
        "shortest(0, 1, 0) > FRACTION", "shortest(0, 2, 1) > FRACTION", "shortest(1, 2, 2) > FRACTION",
        "criticals(0, 1, -1) >", "criticals(0, 1, 0) >", "criticals(0, 1, 1) >", "critical(0, 1, 3) > FRACTION",
        "walk(0, 1, 90, 1, -1, false) >", "walk(0, 1, 90, 1, 1, true) >",
        "hops(0, 1, -1, false) >", "hops(0, 1, 2, true) >",
        "sums(0, 1, 0) >", "sums(0, 1, 1) >", "sums(0, 1, 2) >", "reach(0, 1, 50, 1, 0) >", "reach(0, 1, 50, 1, 2) >",
        "piece(0, 1, 0) >", "piece(0, 1, 1) >", "pieces(0, 1) > FRACTION", "ring(0, 2) > FRACTION",
        "thinned(1, 9, 1, 0) >", "thinned(1, 9, 1, 1) >", "kin(0) >", "middle() >", "groups(-1, 50, 1) >",
        "groups(1, 50, 1) >", "without(0, 1, 1) > FRACTION", "turned(0, 1, 0) > FRACTION", "turned(0, 1, 1) > FRACTION",
        "print() > OUT", "out(0) >", "move(0, 1, 9, 1) > WAYS ACTS", "add(1, 3, 5, 5) > WAYS ACTS",
        "drop(1, 0) > WAYS ACTS", "turn(0) > WAYS ACTS", "undo() > WAYS ACTS",
    };

    private BetweenCallsTest() {
    }

    public static void main(String[] args) {
        theTableHasEveryCall();
        for (String row : FINE_CALLS) {
            String[] told = row.split(" ?>", -1);
            changesWhatItTells(told[0], told[1]);
            sameAnswerTwice(told[0], told[1]);
        }
        eachFractionTillTheNext();
        for (int seed = 0; seed < 60; seed++) {
            statusOfTheLatestCall(new Random(seed));
            tapeAndFaults(new Random(seed));
            outOfTheLatestPrint(new Random(seed));
            actsGoBackOneByOne(new Random(seed));
        }
        Checks.end();
    }

    private static void theTableHasEveryCall() {
        Set<String> names = new TreeSet<>();
        for (String row : FINE_CALLS) {
            names.add(row.substring(0, row.indexOf('(')));
        }
        Checks.due("calls in the table", names.size(), 41);
    }

    /** The FRACTION is 1156 by 101, the FAULT 3 at 8, OUT is older than both ACTS, the tape has forty bytes. */
    private static TwoLeash readied() {
        TwoLeash x = new TwoLeash();
        Checks.load(x, TEXT);
        x.print();
        x.move(1, 1, 10, 4);
        x.near(2, 1, 1, 0);
        x.turn(2);
        Checks.load(x, "way a 0 19");
        for (int[] f : Checks.feeds("way t 1 2 3 4;way two 5 6 7 8;")) {
            x.feed(f[0], f[1], f[2], f[3], f[4]);
        }
        x.many(3);
        return x;
    }

    /** All that calls can tell of an object, part by part. */
    private static Map<String, String> parts(TwoLeash x) {
        Map<String, String> parts = new LinkedHashMap<>();
        parts.put("FRACTION", x.top() + " by " + x.bottom());
        parts.put("FAULT", x.fault(0) + " at " + x.fault(1));
        parts.put("OUT", out(x));
        x.print();
        parts.put("WAYS", out(x));
        StringBuilder undone = new StringBuilder().append(x.many(2));
        for (int left = x.many(2); left > 0; left--) {
            undone.append(' ').append(x.undo());
        }
        x.print();
        parts.put("ACTS", undone + out(x));
        parts.put("TAPE", x.feed(1, 2, 3, 4, 5) + " " + x.load(31) + " " + x.fault(0) + " " + x.fault(1));
        return parts;
    }

    private static String out(TwoLeash x) {
        StringBuilder text = new StringBuilder();
        for (int sign = x.out(0); sign != NONE; sign = x.out(text.length())) {
            text.append((char) sign);
        }
        return text.toString();
    }

    /** A call with STATUS 0 changes what the document says, and nothing else. */
    private static void changesWhatItTells(String call, String changed) {
        TwoLeash x = readied();
        long got = Checks.call(x, call);
        boolean itself = call.startsWith("top") || call.startsWith("bottom") || call.startsWith("status");
        Checks.due(call + " gives an answer", got != NONE || call.equals("fault(2)") || itself, true);
        Checks.due("STATUS behind " + call, x.status(), changed.contains("no STATUS") ? 1 : 0);
        Map<String, String> before = parts(readied());
        Map<String, String> behind = parts(x);
        for (String part : before.keySet()) {
            boolean stays = before.get(part).equals(behind.get(part));
            Checks.due(part + " behind " + call + " stays: " + behind.get(part), stays, !changed.contains(part));
        }
    }

    /** A call that changes no WAYS gives the same answer and FRACTION again, whatever was asked between. */
    private static void sameAnswerTwice(String call, String changed) {
        if (changed.contains("WAYS") || changed.contains("no STATUS")) {
            return;
        }
        TwoLeash x = readied();
        long got = Checks.call(x, call);
        String fraction = x.top() + " by " + x.bottom();
        for (String other : FINE_CALLS) {
            if (!other.contains("WAYS") && !other.contains("TAPE")) {
                Checks.call(x, other.split(" ?>", -1)[0]);
            }
        }
        long again = Checks.call(x, call);
        Checks.due(call + " again", again, got);
        if (changed.contains("FRACTION")) {
            Checks.due("FRACTION of " + call + " again", (x.top() + " by " + x.bottom()).equals(fraction), true);
        }
    }

    /** "Told by top() and bottom() ... till the next one; 0 by 1 at first": behind two calls that tell one, the later. */
    private static void eachFractionTillTheNext() {
        List<String> tellers = new ArrayList<>();
        for (String row : FINE_CALLS) {
            if (row.contains("FRACTION")) {
                tellers.add(row.split(" ?>", -1)[0]);
            }
        }
        TwoLeash fresh = Checks.loaded(TEXT);
        Checks.due("top at first", fresh.top(), 0);
        Checks.due("bottom at first", fresh.bottom(), 1);
        for (String one : tellers) {
            for (String two : tellers) {
                TwoLeash x = Checks.loaded(TEXT);
                TwoLeash alone = Checks.loaded(TEXT);
                Checks.call(x, one);
                Checks.call(x, two);
                Checks.call(alone, two);
                Checks.due(two + " behind " + one, x.top(), alone.top());
                Checks.due(two + " behind " + one, x.bottom(), alone.bottom());
                Checks.load(x, "way new 1 1 2 2;");
                x.without(0, 0, 0);
                x.near(0, 0, 0, 1);
                Checks.due("top stays over load and refusals", x.top(), alone.top());
                Checks.due("bottom stays over load and refusals", x.bottom(), alone.bottom());
            }
        }
    }

    /** "STATUS of the latest call that has one." */
    private static void statusOfTheLatestCall(Random random) {
        String[] calls = {"many(0) 0", "many(3) 1", "way(9, 0) 2", "add(3, 0, 18, 18) 3", "pieces(1, 1) 4", "out(0) 5",
            "load(1) 1", "status()", "top()", "bottom()", "feed(0, 0, 0, 0, 0)", "fault(0)", "fault(-1)", "load(20) 9"};
        TwoLeash x = Checks.loaded("way a 0 0 1 0;way b 0 0 1 1;way c 0 0 2 1;way d 0 0 1 0 2 0 3 0 4 0 5 0 6 0 7 0;");
        int due = 0;
        int taped = 0;
        for (int n = 0; n < 60; n++) {
            String[] told = calls[random.nextInt(calls.length)].split(" (?=\\d$)");
            boolean skipped = told[0].equals("load(20)") && taped < 20 || told[0].equals("load(1)") && taped > 0;
            if (!skipped) {
                Checks.call(x, told[0]);
                taped = told[0].startsWith("feed") && taped < 700 ? taped + 20 : told[0].equals("load(20)") ? 0 : taped;
                due = told.length > 1 ? Integer.parseInt(told[1]) : due;
                Checks.due("status behind " + told[0], x.status(), due);
            }
        }
    }

    /** "The tape stays; else it is empty then; 9: all else stays"; "Of the latest load() with STATUS 0 or 9." */
    private static void tapeAndFaults(Random random) {
        TwoLeash x = new TwoLeash();
        String[] texts = {"way a 1 1 2 2;      ", "way b 1 1 2 2;way c ", "way a -             ", "way d 19            ",
            "                    ", "way e 3 3 3 3;      ", "way f 1 1;          "};
        int[] ways = {1, NONE, NONE, NONE, 0, NONE, NONE};
        int[] kinds = {0, 2, 1, 3, 0, 6, 2};
        int[] places = {NONE, 20, 6, 6, NONE, 12, 9};
        int taped = 0;
        int first = 0;
        int kind = NONE;
        int place = NONE;
        int held = 0;
        for (int n = 0; n < 60; n++) {
            int text = random.nextInt(texts.length);
            int what = random.nextInt(4);
            if (what < 2) {
                int[] f = Checks.feeds(texts[text])[0];
                boolean fits = taped <= 680;
                first = taped == 0 ? text : first;
                taped = fits ? taped + 20 : taped;
                Checks.due("feed", x.feed(f[0], f[1], f[2], f[3], f[4]), fits ? taped : NONE);
            } else if (what == 2 || taped == 0) {
                Checks.dueRefused("load of too many", x, x.load(random.nextBoolean() ? taped + 1 : -1), 1);
            } else {
                Checks.due("load of " + texts[first], x.load(20), ways[first]);
                Checks.due("its STATUS", x.status(), ways[first] == NONE ? 9 : 0);
                held = ways[first] == NONE ? held : ways[first];
                kind = kinds[first];
                place = places[first];
                taped = 0;
            }
            Checks.due("the FAULT", x.fault(0), kind);
            Checks.due("its place", x.fault(1), place);
            Checks.due("no such what", x.fault(2), NONE);
            Checks.due("the WAYS", x.many(0), held);
        }
    }

    /** "OUT: bytes told by the latest print() (none at first)." */
    private static void outOfTheLatestPrint(Random random) {
        TwoLeash x = new TwoLeash();
        String due = "";
        String now = "";
        for (int n = 0; n < 10; n++) {
            int what = random.nextInt(5);
            if (what == 0) {
                Checks.due("print", x.print(), now.length());
                due = now;
            } else if (what == 1) {
                now = "way n 1 " + n + " 2 2;";
                Checks.load(x, now);
            } else if (what == 2) {
                Checks.load(x, "way n 1;");
            } else if (what == 3 && !now.isEmpty()) {
                x.move(0, 1, 18, n);
                now = now.substring(0, now.indexOf(' ', 8)) + " 18 " + n + ";";
            } else {
                x.out(-1);
                x.out(700);
            }
            String got = out(x);
            Checks.due("OUT is " + got + " for " + due, got.equals(due), true);
        }
    }

    /** "The latest one not undone yet goes back; 10 are kept; load() forgets them." */
    private static void actsGoBackOneByOne(Random random) {
        TwoLeash x = new TwoLeash();
        Deque<List<Integer>> kept = new ArrayDeque<>();
        Checks.load(x, "way a 0 0 5 5;");
        for (int n = 0; n < 28; n++) {
            List<Integer> before = points(x);
            int what = random.nextInt(12);
            if (what == 0) {
                boolean fine = random.nextInt(3) == 0;
                Checks.load(x, fine ? "way b 1 1 2 2 3 3;" : "way b 1 1 1 1;");
                kept = fine ? new ArrayDeque<>() : kept;
                Checks.due("points behind load", points(x).equals(fine ? List.of(1, 1, 2, 2, 3, 3) : before), true);
            } else if (what < 4) {
                Checks.due("undo", x.undo(), kept.size() - 1);
                Checks.due("its STATUS", x.status(), kept.isEmpty() ? 5 : 0);
                List<Integer> due = kept.isEmpty() ? before : kept.pop();
                Checks.due("points behind undo", points(x).equals(due), true);
            } else if (act(x, random, before.size() / 2)) {
                kept.push(before);
                if (kept.size() > 10) {
                    kept.removeLast();
                }
            } else {
                Checks.due("points behind a refusal", points(x).equals(before), true);
            }
            Checks.due("ACTS that can be undone", x.many(2), kept.size());
        }
    }

    private static boolean act(TwoLeash x, Random random, int points) {
        int i = random.nextInt(points);
        int what = random.nextInt(4);
        if (what == 0) {
            return x.move(0, i, random.nextInt(7), random.nextInt(7)) != NONE;
        }
        if (what == 1) {
            return x.add(0, random.nextInt(points + 1), random.nextInt(7), random.nextInt(7)) != NONE;
        }
        return what == 2 ? x.drop(0, i) != NONE : x.turn(0) != NONE;
    }

    private static List<Integer> points(TwoLeash x) {
        List<Integer> all = new ArrayList<>();
        int points = x.way(0, 0);
        for (int i = 0; i < points; i++) {
            all.add(x.way(0, 10 + i));
            all.add(x.way(0, 20 + i));
        }
        return all;
    }
}
