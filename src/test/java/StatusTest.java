import java.lang.reflect.Method;
import java.util.ArrayList;
import java.util.Arrays;
import java.util.HashMap;
import java.util.List;
import java.util.Map;

/**
 * Each call with every STATUS that stands behind it: for numbers below 0, just at and just beyond the last one
 * that can be, and for the least and the greatest int; of two that hold the one that is told first; and
 * "With another STATUS than 0 a call gives NONE, or false, and changes nothing else."
 */
public final class StatusTest {
    private static final int NONE = TwoLeash.NONE;
    private static final int LOWEST = Integer.MIN_VALUE;
    private static final int HIGHEST = Integer.MAX_VALUE;

    /** WAYS of three, two, five and eight POINTS; the third is a RING, POINT 1 of the last has neighbours alike. */
    private static final String TEXT = "way a 0 0 10 0 10 10;way b 0 3 10 3;way ring 0 0 4 0 4 4 0 4 0 0;"
        + "way full 5 5 6 5 5 5 7 5 8 5 9 5 10 5 11 5;";

    private static final Map<String, Method> METHODS = new HashMap<>();

    private static final int[] POINTS = {3, 2, 5, 8};

    /** What one number of a call can be: the STATUS of wrong ones, wrong ones, right ones at the edges. */
    private record Role(int status, int[] wrong, int[] right) {
    }

    /** What a number can be, which may hang on the WAY that the same call tells. */
    private interface Kind {
        Role of(Object[] given);
    }

    /** Numbers of a call and which STATUS holds by them (0: none). */
    private record State(int status, Object[] given) {
    }

    /** A call: which STATUS are told behind it, in this order; its numbers; what each of them can be. */
    private record Row(String name, List<Integer> told, Object[] given, Kind[] kinds, List<State> states) {
        Row but(int status, Object... others) {
            states.add(new State(status, others));
            return this;
        }

        Role role(int at, Object[] numbers) {
            return kinds[at].of(numbers);
        }
    }

    private static final Kind WAY = given -> range(2, 0, 3);
    private static final Kind LEASH_ABOVE = upTo(100000);
    private static final Kind LEASH_BELOW = only(1, new int[] {LOWEST, -1, 0, 1001, HIGHEST}, 1, 1000);
    private static final Kind PLACE = upTo(18);
    private static final Kind FROM_NONE = only(1, new int[] {LOWEST, -2}, NONE, 0);
    private static final Kind FROM_0 = only(1, new int[] {LOWEST, -2, -1}, 0);
    private static final Kind ANY = only(0, new int[0]);

    private static final List<Row> ROWS = new ArrayList<>();

    private StatusTest() {
    }

    public static void main(String[] args) throws Exception {
        for (Method method : TwoLeash.class.getDeclaredMethods()) {
            METHODS.put(method.getName(), method);
        }
        callsOnWays();
        callsOnLeashes();
        moreWays();
        acts();
        // 41 calls, but five without a STATUS, print() that has only 0, and middle(), undo() without numbers.
        Checks.due("every call with numbers and a STATUS", ROWS.stream().map(Row::name).distinct().count(), 33);
        for (Row row : ROWS) {
            wrongNumbers(row);
            rightNumbers(row);
            twoWrongNumbers(row);
        }
        withoutWays();
        withOneWay();
        noStatusOfTheirOwn();
        Checks.end();
    }

    private static Role range(int status, int least, int most) {
        return new Role(status, new int[] {LOWEST, least - 1, most + 1, HIGHEST}, new int[] {least, most});
    }

    private static Kind only(int status, int[] wrong, int... right) {
        return given -> new Role(status, wrong, right);
    }

    private static Kind upTo(int most) {
        return given -> range(1, 0, most);
    }

    private static int pointsOf(Object[] given, int at) {
        return POINTS[(Integer) given[at]];
    }

    private static Kind point(int ofWayAt) {
        return given -> range(2, 0, pointsOf(given, ofWayAt) - 1);
    }

    private static Kind edge(int ofWayAt) {
        return given -> range(2, 0, pointsOf(given, ofWayAt) - 2);
    }

    private static Kind pointOrEnd(int ofWayAt) {
        return given -> range(2, 0, pointsOf(given, ofWayAt));
    }

    private static Object[] of(Object... given) {
        return given;
    }

    private static Row row(String name, List<Integer> told, Object[] given, Kind... kinds) {
        Row row = new Row(name, told, given, kinds, new ArrayList<>());
        ROWS.add(row);
        return row.but(0, given);
    }

    // ---- what is told behind each call

    private static void callsOnWays() {
        row("load", List.of(1, 9), of(20), upTo(20)).but(9, 13);
        row("many", List.of(1), of(0), upTo(2));
        Kind what = only(1, new int[] {LOWEST, -1, 3, 9, 18, 19, 28, HIGHEST}, 0, 2, 10, 17, 20, 27);
        row("way", List.of(1, 2), of(0, 0), WAY, what)
            .but(2, 0, 13).but(2, 0, 17).but(2, 0, 23).but(2, 1, 12).but(2, 1, 22).but(0, 0, 12).but(0, 3, 27);
        row("square", List.of(2), of(0, 0, 1, 0), WAY, point(0), WAY, point(2)).but(0, 3, 7, 3, 7);
        row("near", List.of(2), of(0, 0, 2, 0), WAY, point(0), WAY, edge(2)).but(0, 3, 7, 1, 0).but(0, 3, 7, 3, 6);
        row("nearest", List.of(2, 4), of(0, 0, 1), WAY, point(0), WAY).but(4, 0, 0, 0).but(4, 3, 7, 3);
        row("farthest", List.of(2, 4), of(0, 1), WAY, WAY).but(4, 0, 0).but(4, 3, 3);
        row("meets", List.of(1, 2), of(0, 1, 0), WAY, WAY, upTo(1)).but(0, 1, 1, 1);
        row("bends", List.of(1, 2), of(0, 0), WAY, upTo(3));
    }

    private static void callsOnLeashes() {
        List<Integer> all = List.of(1, 2, 4, 5);
        List<Integer> three = List.of(1, 2, 4);
        row("free", all, of(0, 2, false, 0, 0, 16, 1, 0),
            WAY, WAY, ANY, edge(0), point(1), LEASH_ABOVE, LEASH_BELOW, upTo(1))
            .but(4, 0, 0, false, 1, 2, 16, 1, 0).but(5, 0, 1, false, 0, 1, 8999, 1000, 1).but(4, 1, 1, false, 0, 0, 0, 1, 0);
        row("free", all, of(0, 2, true, 0, 0, 16, 1, 1),
            WAY, WAY, ANY, point(0), edge(1), LEASH_ABOVE, LEASH_BELOW, upTo(1))
            .but(4, 0, 0, true, 2, 1, 16, 1, 0).but(5, 0, 1, true, 0, 0, 8, 1, 0);
        row("low", all, of(0, 2, false, 0, 0, 9, 1), WAY, WAY, ANY, edge(0), point(1), LEASH_ABOVE, LEASH_BELOW)
            .but(4, 2, 2, false, 3, 4, 9, 1).but(5, 0, 1, false, 0, 0, 8, 1);
        row("low", all, of(0, 2, true, 0, 0, 9, 1), WAY, WAY, ANY, point(0), edge(1), LEASH_ABOVE, LEASH_BELOW)
            .but(4, 2, 2, true, 4, 3, 9, 1).but(5, 0, 1, true, 2, 0, 8, 1);
        row("sides", three, of(0, 1, 9, 1, 0), WAY, WAY, LEASH_ABOVE, LEASH_BELOW, upTo(2)).but(4, 3, 3, 9, 1, 2);
        row("enough", three, of(0, 1, 0, 9, 1), WAY, WAY, upTo(2), LEASH_ABOVE, LEASH_BELOW).but(4, 0, 0, 2, 9, 1);
        row("shortest", three, of(0, 1, 0), WAY, WAY, upTo(2)).but(4, 3, 3, 2);
        row("criticals", three, of(0, 1, NONE), WAY, WAY, given -> range(1, NONE, 1)).but(4, 2, 2, 1).but(0, 0, 1, 0);
        row("critical", all, of(0, 1, 0), WAY, WAY, FROM_0).but(4, 1, 1, 0).but(4, 1, 1, HIGHEST)
            .but(5, 0, 1, HIGHEST).but(5, 0, 1, 508);
        row("walk", all, of(0, 1, 109, 1, 0, true), WAY, WAY, LEASH_ABOVE, LEASH_BELOW, FROM_NONE, ANY)
            .but(4, 0, 0, 109, 1, NONE, false).but(4, 0, 0, 0, 1, HIGHEST, true)
            .but(5, 0, 1, 8, 1, NONE, false).but(5, 0, 1, 8, 1, 0, true).but(5, 0, 1, 109, 1, 2, true)
            .but(5, 0, 1, 109, 1, HIGHEST, false).but(0, 0, 1, 109, 1, 1, false);
        row("hops", all, of(0, 1, 0, true), WAY, WAY, FROM_NONE, ANY)
            .but(4, 0, 0, NONE, false).but(4, 0, 0, HIGHEST, false).but(5, 0, 1, 3, true).but(5, 0, 1, HIGHEST, true)
            .but(0, 0, 1, 2, true);
        row("sums", three, of(0, 1, 0), WAY, WAY, upTo(2)).but(4, 1, 1, 2);
        row("reach", all, of(0, 1, 9, 1, 0), WAY, WAY, LEASH_ABOVE, LEASH_BELOW, upTo(2))
            .but(4, 0, 0, 9, 1, 1).but(4, 0, 0, 0, 1, 2).but(5, 0, 1, 8999, 1000, 1).but(5, 0, 1, 0, 1, 2)
            .but(0, 0, 1, 0, 1, 0).but(0, 0, 1, 9, 1, 2);
    }

    private static void moreWays() {
        row("piece", List.of(1, 2, 4), of(0, 1, 0), WAY, WAY, upTo(1)).but(4, 3, 3, 1);
        row("pieces", List.of(2, 4), of(0, 1), WAY, WAY).but(4, 3, 3);
        row("ring", List.of(2, 4, 5), of(0, 2), WAY, WAY).but(4, 2, 2).but(4, 1, 1).but(5, 0, 1).but(5, 2, 0);
        row("thinned", List.of(1, 2), of(0, 9, 1, 0), WAY, LEASH_ABOVE, LEASH_BELOW, upTo(1));
        row("kin", List.of(2, 5), of(0), WAY);
        Kind wayOrNone = only(1, new int[] {LOWEST, -2}, NONE, 0, 3);
        row("groups", List.of(1, 2), of(0, 9, 1), wayOrNone, LEASH_ABOVE, LEASH_BELOW).but(2, 4, 9, 1).but(2, HIGHEST, 9, 1);
        row("without", List.of(1, 2, 4, 5), of(0, 0, 1), WAY, point(0), WAY)
            .but(4, 0, 0, 0).but(4, 1, 1, 1).but(4, 3, 1, 3).but(5, 1, 0, 0).but(5, 1, 1, 2).but(5, 3, 1, 0);
        row("turned", List.of(1, 2, 4), of(0, 1, 0), WAY, WAY, upTo(2)).but(4, 0, 0, 1);
        row("out", List.of(1, 5), of(0), FROM_0).but(0, TEXT.length() - 1).but(5, TEXT.length()).but(5, HIGHEST);
    }

    private static void acts() {
        row("move", List.of(1, 2, 4), of(0, 1, 9, 1), WAY, point(0), PLACE, PLACE)
            .but(4, 0, 1, 10, 0).but(4, 0, 1, 0, 0).but(4, 0, 1, 10, 10).but(4, 3, 7, 10, 5).but(4, 3, 0, 6, 5);
        row("add", List.of(1, 2, 3, 4), of(0, 1, 9, 1), WAY, pointOrEnd(0), PLACE, PLACE)
            .but(3, 3, 0, 0, 0).but(3, 3, 8, 0, 0).but(3, 3, 0, 5, 5).but(3, 3, 8, 11, 5)
            .but(4, 0, 0, 0, 0).but(4, 0, 1, 0, 0).but(4, 0, 1, 10, 0).but(4, 0, 3, 10, 10);
        row("drop", List.of(2, 5, 4), of(0, 1), WAY, point(0)).but(5, 1, 0).but(5, 1, 1).but(4, 3, 1)
            .but(0, 3, 0).but(0, 3, 7).but(0, 2, 4);
        row("turn", List.of(2), of(0), WAY);
    }

    // ---- the state that a refused call must leave

    /** Two ACTS can be undone, OUT is older than they, the FRACTION is 1600 by 101, the FAULT 3 at 8, the tape has 20. */
    private static TwoLeash readied() {
        TwoLeash x = new TwoLeash();
        Checks.load(x, TEXT);
        x.print();
        x.move(1, 1, 10, 4);
        x.near(0, 1, 1, 0);
        x.move(1, 1, 10, 3);
        Checks.load(x, "way a 0 19");
        x.feed(0x77617920, 0x7A203120, 0x32203320, 0x343B2020, 0x20202020);
        x.many(0);
        return x;
    }

    private static void readWays(TwoLeash x, List<Long> into) {
        for (int what = 0; what < 3; what++) {
            into.add((long) x.many(what));
        }
        int ways = x.many(0);
        for (int way = 0; way < ways; way++) {
            for (int i = 0; i < 8; i++) {
                into.add((long) x.way(way, 10 + i));
                into.add((long) x.way(way, 20 + i));
            }
        }
    }

    /** Everything that calls can tell of an object. */
    private static List<Long> told(TwoLeash x) {
        List<Long> all = new ArrayList<>(List.of(x.top(), x.bottom(), (long) x.fault(0), (long) x.fault(1)));
        for (int i = 0; i <= TEXT.length(); i++) {
            all.add((long) x.out(i));
        }
        readWays(x, all);
        for (int undone = 0; undone < 3; undone++) {
            all.add((long) x.undo());
        }
        readWays(x, all);
        all.add((long) x.print());
        all.add((long) x.out(4));
        all.add((long) x.feed(0, 0, 0, 0, 0));
        all.add((long) x.load(15));
        readWays(x, all);
        return all;
    }

    private static final List<Long> UNTOUCHED = told(readied());

    // ---- the checks

    private static long call(TwoLeash x, String name, Object[] given) throws Exception {
        Object answer = METHODS.get(name).invoke(x, given);
        return answer instanceof Boolean truth ? truth ? NONE + 2 : NONE : ((Number) answer).longValue();
    }

    private static String shown(String name, Object[] given) {
        return name + Arrays.toString(given);
    }

    /** The call on an object of its own, which nobody can tell from an untouched one then. */
    private static void dueRefused(String name, Object[] given, int status) throws Exception {
        TwoLeash x = readied();
        Checks.due(shown(name, given), call(x, name, given), NONE);
        Checks.due("status of " + shown(name, given), x.status(), status);
        boolean ofLoad = name.equals("load") && status == 9;
        Checks.due(shown(name, given) + " changes nothing", ofLoad || told(x).equals(UNTOUCHED), true);
    }

    private static void dueFine(String name, Object[] given) throws Exception {
        TwoLeash x = readied();
        x.many(3);
        Checks.due(shown(name, given) + " is no refusal", call(x, name, given) >= 0, true);
        Checks.due("status of " + shown(name, given), x.status(), 0);
    }

    private static Object[] with(Object[] given, int at, int value) {
        Object[] other = given.clone();
        other[at] = value;
        return other;
    }

    private static int firstTold(Row row, int one, int two) {
        for (int status : row.told()) {
            if (status == one || status == two) {
                return status;
            }
        }
        return 0;
    }

    /** Each state as it is, and with each wrong number. */
    private static void wrongNumbers(Row row) throws Exception {
        for (State state : row.states()) {
            if (state.status() == 0) {
                dueFine(row.name(), state.given());
            } else {
                dueRefused(row.name(), state.given(), state.status());
            }
            for (int at = 0; at < row.kinds().length; at++) {
                Role role = row.role(at, state.given());
                for (int wrong : role.wrong()) {
                    dueRefused(row.name(), with(state.given(), at, wrong), firstTold(row, role.status(), state.status()));
                }
            }
        }
    }

    /** The least and the greatest number that can be is not refused for itself. */
    private static void rightNumbers(Row row) throws Exception {
        for (int at = 0; at < row.kinds().length; at++) {
            Role role = row.role(at, row.given());
            for (int right : role.right()) {
                TwoLeash x = readied();
                call(x, row.name(), with(row.given(), at, right));
                Checks.due(shown(row.name(), with(row.given(), at, right)) + " can be", x.status() != role.status(), true);
            }
        }
    }

    /** Of two numbers that are wrong the one whose STATUS is told first. */
    private static void twoWrongNumbers(Row row) throws Exception {
        for (int one = 0; one < row.kinds().length; one++) {
            for (int two = one + 1; two < row.kinds().length; two++) {
                twoWrongNumbers(row, one, two);
            }
        }
    }

    private static void twoWrongNumbers(Row row, int one, int two) throws Exception {
        TwoLeash x = readied();
        Role role = row.role(one, row.given());
        Role other = row.role(two, row.given());
        int due = firstTold(row, role.status(), other.status());
        for (int first : role.wrong()) {
            for (int second : other.wrong()) {
                Object[] given = with(with(row.given(), one, first), two, second);
                Checks.due(shown(row.name(), given), call(x, row.name(), given), NONE);
                Checks.due("status of " + shown(row.name(), given), x.status(), due);
            }
        }
    }

    /** "No WAYS": a WAY 0 is not there for any call that is fine else. */
    private static void withoutWays() throws Exception {
        for (Row row : ROWS) {
            boolean ofWay = row.kinds()[0] == WAY || row.name().equals("groups");
            if (ofWay) {
                TwoLeash x = new TwoLeash();
                Checks.due("no ways: " + row.name(), call(x, row.name(), row.given()), NONE);
                Checks.due("no ways: status of " + row.name(), x.status(), 2);
            }
        }
        TwoLeash x = new TwoLeash();
        Checks.dueRefused("no ways: middle", x, x.middle(), 5);
        Checks.dueRefused("no ways: undo", x, x.undo(), 5);
        Checks.dueRefused("no ways: out", x, x.out(0), 5);
        Checks.dueFine("no ways: print", x, x.print(), 0);
        Checks.dueFine("no ways: groups", x, x.groups(NONE, 9, 1), 0);
        for (int what = 0; what < 3; what++) {
            Checks.dueFine("no ways: many", x, x.many(what), 0);
        }
    }

    /** One WAY alone: no other one is there (2), it is itself no other one (4). */
    private static void withOneWay() throws Exception {
        for (Row row : ROWS) {
            boolean ofTwo = row.kinds().length > 1 && row.kinds()[0] == WAY && row.kinds()[1] == WAY;
            if (ofTwo && row.told().contains(4)) {
                TwoLeash x = Checks.loaded("way a 0 0 10 0 10 10;");
                call(x, row.name(), row.given());
                Checks.due("one way: status of " + row.name(), x.status(), 2);
                call(x, row.name(), with(with(row.given(), 0, 0), 1, 0));
                Checks.due("one way twice: status of " + row.name(), x.status(), 4);
            }
        }
        TwoLeash x = Checks.loaded("way a 0 0 10 0 10 10;");
        Checks.dueRefused("one way: kin", x, x.kin(0), 5);
        Checks.dueRefused("one way: no kin of 1", x, x.kin(1), 2);
        Checks.dueRefused("one way: middle", x, x.middle(), 5);
        Checks.dueFine("one way: groups", x, x.groups(NONE, 0, 1), 1);
        Checks.dueFine("one way: its group", x, x.groups(0, 0, 1), 1);
        Checks.dueRefused("one way: no group of 1", x, x.groups(1, 0, 1), 2);
        Checks.dueRefused("one way: without", x, x.without(0, 1, 0), 4);
        Checks.dueRefused("one way: nearest", x, x.nearest(0, 1, 0), 4);
    }

    /** "status(), feed(), fault(), top(), bottom() have none", whatever STATUS the call ahead had. */
    private static void noStatusOfTheirOwn() {
        for (int status : new int[] {0, 1, 2, 4, 5}) {
            TwoLeash x = readied();
            switch (status) {
                case 0 -> x.print();
                case 1 -> x.many(3);
                case 2 -> x.turn(4);
                case 4 -> x.farthest(0, 0);
                default -> x.ring(0, 1);
            }
            Checks.due("status()", x.status(), status);
            x.feed(1, 2, 3, 4, 5);
            Checks.due("feed()", x.status(), status);
            x.fault(0);
            x.fault(7);
            Checks.due("fault()", x.status(), status);
            x.top();
            Checks.due("top()", x.status(), status);
            x.bottom();
            Checks.due("bottom()", x.status(), status);
            x.many(0);
            Checks.due("of the latest call that has one", x.status(), 0);
        }
    }
}
