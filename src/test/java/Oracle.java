import java.math.BigDecimal;
import java.math.BigInteger;
import java.math.MathContext;
import java.util.ArrayList;
import java.util.List;
import java.util.TreeSet;

/**
 * The document once more, told as plainly as can be: slow, with big numbers, leashes tried one by one.
 * Places are doubles where these tell enough, else decimals of 120 digits (unlike places are further apart
 * than 60 of them).
 */
final class Oracle {
    static final int NONE = -1;
    private static final MathContext DIGITS = new MathContext(120);
    private static final BigDecimal TINY = new BigDecimal("1e-60");

    /** A fraction without a common divisor. */
    record Q(BigInteger n, BigInteger d) implements Comparable<Q> {
        static Q of(long n, long d) {
            return of(BigInteger.valueOf(n), BigInteger.valueOf(d));
        }

        static Q of(BigInteger n, BigInteger d) {
            BigInteger g = n.gcd(d);
            g = d.signum() < 0 ? g.negate() : g;
            return new Q(n.divide(g), d.divide(g));
        }

        Q plus(Q o) {
            return of(n.multiply(o.d).add(o.n.multiply(d)), d.multiply(o.d));
        }

        Q minus(Q o) {
            return plus(new Q(o.n.negate(), o.d));
        }

        Q times(Q o) {
            return of(n.multiply(o.n), d.multiply(o.d));
        }

        Q by(Q o) {
            return of(n.multiply(o.d), d.multiply(o.n));
        }

        double near() {
            return n.doubleValue() / d.doubleValue();
        }

        BigDecimal exact() {
            return new BigDecimal(n).divide(new BigDecimal(d), DIGITS);
        }

        @Override
        public int compareTo(Q o) {
            return n.multiply(o.d).compareTo(o.n.multiply(d));
        }
    }

    static final Q ZERO = Q.of(0, 1);
    static final Q ONE = Q.of(1, 1);

    /** base + bend * root of under. */
    record Place(Q base, int bend, Q under) {
        static final Place START = new Place(ZERO, 0, ZERO);
        static final Place END = new Place(ONE, 0, ZERO);

        double near() {
            return base.near() + bend * Math.sqrt(under.near());
        }

        BigDecimal exact() {
            BigDecimal root = under.n().signum() == 0 ? BigDecimal.ZERO : under.exact().sqrt(DIGITS);
            return base.exact().add(root.multiply(BigDecimal.valueOf(bend)));
        }

        int compare(Place o) {
            double apart = near() - o.near();
            if (Math.abs(apart) > 1e-6) {
                return apart > 0 ? 1 : -1;
            }
            BigDecimal small = exact().subtract(o.exact(), DIGITS);
            return small.abs().compareTo(TINY) < 0 ? 0 : small.signum();
        }

        int thousandths() {
            int k = (int) (near() * 1000) + 2;
            while (new Place(Q.of(k, 1000), 0, ZERO).compare(this) > 0) {
                k--;
            }
            return k;
        }
    }

    record P(int x, int y) {
        int square(P o) {
            return (x - o.x) * (x - o.x) + (y - o.y) * (y - o.y);
        }
    }

    static final class Way {
        final String name;
        final List<P> points = new ArrayList<>();

        Way(String name) {
            this.name = name;
        }

        Way(String name, List<P> points) {
            this.name = name;
            this.points.addAll(points);
        }

        int count() {
            return points.size();
        }

        P at(int i) {
            return points.get(i);
        }

        Way turned() {
            Way way = new Way(name);
            for (P p : points) {
                way.points.add(0, p);
            }
            return way;
        }
    }

    // ---- geometry

    /** The SQUARE at a PLACE of an EDGE is length t t - 2 foot t + start. */
    static int[] line(P from, P to, P p) {
        int ux = to.x() - from.x();
        int uy = to.y() - from.y();
        int wx = p.x() - from.x();
        int wy = p.y() - from.y();
        return new int[] {ux * ux + uy * uy, ux * wx + uy * wy, wx * wx + wy * wy};
    }

    static Q squareAt(int[] line, Q t) {
        return Q.of(line[0], 1).times(t).times(t).minus(Q.of(2L * line[1], 1).times(t)).plus(Q.of(line[2], 1));
    }

    static Q least(P from, P to, P p) {
        int[] line = line(from, to, p);
        Q t = Q.of(line[1], line[0]);
        t = t.compareTo(ZERO) < 0 ? ZERO : t.compareTo(ONE) > 0 ? ONE : t;
        return squareAt(line, t);
    }

    /** First and last FREE PLACE, or null. */
    static Place[] freePlaces(P from, P to, P p, Q e) {
        if (least(from, to, p).compareTo(e) > 0) {
            return null;
        }
        int[] line = line(from, to, p);
        Q foot = Q.of(line[1], line[0]);
        Q under = foot.times(foot).minus(Q.of(line[2], 1).minus(e).by(Q.of(line[0], 1)));
        Place first = new Place(foot, -1, under);
        Place last = new Place(foot, 1, under);
        if (Q.of(from.square(p), 1).compareTo(e) <= 0) {
            first = Place.START;
        }
        if (Q.of(to.square(p), 1).compareTo(e) <= 0) {
            last = Place.END;
        }
        return new Place[] {first, last};
    }

    /** All sides of two WAYS by a leash: [left][i][j]. */
    static final class Diagram {
        final Place[][][][] free = new Place[2][9][9][];
        final Place[][][] low = new Place[2][9][9];
        final int ea;
        final int eb;
        final boolean ends;

        Diagram(Way a, Way b, Q e) {
            ea = a.count() - 1;
            eb = b.count() - 1;
            for (int i = 0; i <= ea; i++) {
                for (int j = 0; j <= eb; j++) {
                    if (i < ea) {
                        free[0][i][j] = freePlaces(a.at(i), a.at(i + 1), b.at(j), e);
                    }
                    if (j < eb) {
                        free[1][i][j] = freePlaces(b.at(j), b.at(j + 1), a.at(i), e);
                    }
                }
            }
            ends = within(a.at(0).square(b.at(0)), e) && within(a.at(ea).square(b.at(eb)), e);
            if (!within(a.at(0).square(b.at(0)), e)) {
                return;
            }
            for (int i = 0; i < ea && within(a.at(i).square(b.at(0)), e); i++) {
                low[0][i][0] = Place.START;
            }
            for (int j = 0; j < eb && within(a.at(0).square(b.at(j)), e); j++) {
                low[1][0][j] = Place.START;
            }
            for (int i = 0; i < ea; i++) {
                for (int j = 0; j < eb; j++) {
                    low[1][i + 1][j] = come(free[1][i + 1][j], low[0][i][j], low[1][i][j]);
                    low[0][i][j + 1] = come(free[0][i][j + 1], low[1][i][j], low[0][i][j]);
                }
            }
        }

        static boolean within(int square, Q e) {
            return Q.of(square, 1).compareTo(e) <= 0;
        }

        static Place come(Place[] free, Place across, Place before) {
            if (free == null || across == null && before == null) {
                return null;
            }
            if (across != null) {
                return free[0];
            }
            Place later = free[0].compare(before) >= 0 ? free[0] : before;
            return later.compare(free[1]) <= 0 ? later : null;
        }

        boolean walk() {
            return ends && (low[0][ea - 1][eb - 1] != null || low[1][ea - 1][eb - 1] != null);
        }

        boolean weak() {
            boolean[][] seen = new boolean[9][9];
            wander(seen, 0, 0);
            return ends && seen[ea - 1][eb - 1];
        }

        private void wander(boolean[][] seen, int i, int j) {
            if (i < 0 || j < 0 || i >= ea || j >= eb || seen[i][j]) {
                return;
            }
            seen[i][j] = true;
            if (free[1][i + 1][j] != null) {
                wander(seen, i + 1, j);
            }
            if (free[1][i][j] != null) {
                wander(seen, i - 1, j);
            }
            if (free[0][i][j + 1] != null) {
                wander(seen, i, j + 1);
            }
            if (free[0][i][j] != null) {
                wander(seen, i, j - 1);
            }
        }

        boolean comeInto(int i, int j) {
            return low[0][i][j] != null || low[1][i][j] != null;
        }
    }

    static TreeSet<Q> allCriticals(Way a, Way b) {
        TreeSet<Q> all = new TreeSet<>();
        all.add(Q.of(a.at(0).square(b.at(0)), 1));
        all.add(Q.of(a.at(a.count() - 1).square(b.at(b.count() - 1)), 1));
        halfCriticals(a, b, all);
        halfCriticals(b, a, all);
        return all;
    }

    private static void halfCriticals(Way edges, Way points, TreeSet<Q> all) {
        for (int e = 0; e + 1 < edges.count(); e++) {
            P from = edges.at(e);
            P to = edges.at(e + 1);
            for (P p : points.points) {
                all.add(least(from, to, p));
            }
            for (int i = 0; i < points.count(); i++) {
                for (int k = 0; k < i; k++) {
                    int[] one = line(from, to, points.at(i));
                    int[] two = line(from, to, points.at(k));
                    if (one[1] != two[1]) {
                        Q t = Q.of(one[2] - two[2], 2L * (one[1] - two[1]));
                        if (t.compareTo(ZERO) >= 0 && t.compareTo(ONE) <= 0) {
                            all.add(squareAt(one, t));
                        }
                    }
                }
            }
        }
    }

    static boolean isEnough(Way a, Way b, int kind, Q e) {
        if (kind == 2) {
            return hopsServe(a, b, 0, 0, e);
        }
        Diagram diagram = new Diagram(a, b, e);
        return kind == 0 ? diagram.walk() : diagram.weak();
    }

    private static boolean hopsServe(Way a, Way b, int i, int j, Q e) {
        if (i >= a.count() || j >= b.count() || !Diagram.within(a.at(i).square(b.at(j)), e)) {
            return false;
        }
        if (i == a.count() - 1 && j == b.count() - 1) {
            return true;
        }
        return hopsServe(a, b, i + 1, j + 1, e) || hopsServe(a, b, i + 1, j, e) || hopsServe(a, b, i, j + 1, e);
    }

    static Q shortestOf(Way a, Way b, int kind) {
        if (kind == 2) {
            TreeSet<Q> squares = new TreeSet<>();
            for (P p : a.points) {
                for (P q : b.points) {
                    squares.add(Q.of(p.square(q), 1));
                }
            }
            for (Q e : squares) {
                if (hopsServe(a, b, 0, 0, e)) {
                    return e;
                }
            }
        }
        Q first = Q.of(a.at(0).square(b.at(0)), 1);
        Q last = Q.of(a.at(a.count() - 1).square(b.at(b.count() - 1)), 1);
        for (Q e : allCriticals(a, b)) {
            if (e.compareTo(first) >= 0 && e.compareTo(last) >= 0 && isEnough(a, b, kind, e)) {
                return e;
            }
        }
        throw new IllegalStateException("no CRITICAL is ENOUGH");
    }

    // ---- the object

    private List<Way> ways = new ArrayList<>();
    private final List<List<Way>> undone = new ArrayList<>();
    private byte[] tape = new byte[0];
    private String printed = "";
    private int status = 0;
    private Q told = ZERO;
    private int faultKind = NONE;
    private int faultPlace = NONE;

    /** The WAYS, for one who looks on without a call. */
    List<Way> held() {
        return ways;
    }

    public int status() {
        return status;
    }

    public long top() {
        return told.n().longValueExact();
    }

    public long bottom() {
        return told.d().longValueExact();
    }

    public int feed(int a, int b, int c, int d, int e) {
        if (tape.length + 20 > 700) {
            return NONE;
        }
        byte[] longer = java.util.Arrays.copyOf(tape, tape.length + 20);
        java.nio.ByteBuffer.wrap(longer, tape.length, 20).putInt(a).putInt(b).putInt(c).putInt(d).putInt(e);
        tape = longer;
        return tape.length;
    }

    private static final class Fault extends RuntimeException {
        private static final long serialVersionUID = 1L;
        final int kind;
        final int place;

        Fault(int kind, int place) {
            super("fault", null, false, false);
            this.kind = kind;
            this.place = place;
        }
    }

    private static final java.util.regex.Pattern TOKEN = java.util.regex.Pattern.compile("[ \n]*([a-z]+|[0-9]+|;|\\z|.)",
        java.util.regex.Pattern.DOTALL);

    static List<Way> parse(String text) {
        List<Way> told = new ArrayList<>();
        Way now = null;
        String state = "way";
        int x = 0;
        java.util.regex.Matcher m = TOKEN.matcher(text);
        while (m.lookingAt()) {
            String t = m.group(1);
            int at = m.start(1);
            boolean word = t.matches("[a-z]{1,8}");
            boolean number = t.matches("[0-9]{1,2}");
            if (!word && !number && !t.equals(";") && !t.isEmpty()) {
                throw new Fault(1, at);
            }
            switch (state) {
                case "way" -> {
                    if (t.isEmpty()) {
                        return told;
                    }
                    if (!t.equals("way")) {
                        throw new Fault(2, at);
                    }
                    if (told.size() == 4) {
                        throw new Fault(5, at);
                    }
                    state = "name";
                }
                case "name" -> {
                    if (!word || t.equals("way")) {
                        throw new Fault(2, at);
                    }
                    if (told.stream().anyMatch(w -> w.name.equals(t))) {
                        throw new Fault(4, at);
                    }
                    now = new Way(t);
                    told.add(now);
                    state = "x";
                }
                case "x" -> {
                    if (t.equals(";") && now.count() >= 2) {
                        state = "way";
                    } else {
                        if (!number) {
                            throw new Fault(2, at);
                        }
                        x = Integer.parseInt(t);
                        if (x > 18) {
                            throw new Fault(3, at);
                        }
                        if (now.count() == 8) {
                            throw new Fault(5, at);
                        }
                        state = "y";
                    }
                }
                default -> {
                    if (!number) {
                        throw new Fault(2, at);
                    }
                    P p = new P(x, Integer.parseInt(t));
                    if (p.y() > 18) {
                        throw new Fault(3, at);
                    }
                    if (now.count() > 0 && now.at(now.count() - 1).equals(p)) {
                        throw new Fault(6, at);
                    }
                    now.points.add(p);
                    state = "x";
                }
            }
            m.region(m.end(), text.length());
        }
        throw new IllegalStateException("the end was not seen");
    }

    public int load(int n) {
        if (n < 0 || n > tape.length) {
            return no(1);
        }
        String text = new String(tape, 0, n, java.nio.charset.StandardCharsets.ISO_8859_1);
        tape = new byte[0];
        try {
            ways = parse(text);
            undone.clear();
            faultKind = 0;
            faultPlace = NONE;
            return yes(ways.size());
        } catch (Fault fault) {
            faultKind = fault.kind;
            faultPlace = fault.place;
            return no(9);
        }
    }

    public int fault(int what) {
        return what == 0 ? faultKind : what == 1 ? faultPlace : NONE;
    }

    private int no(int why) {
        status = why;
        return NONE;
    }

    private boolean nay(int why) {
        status = why;
        return false;
    }

    private int yes(int value) {
        status = 0;
        return value;
    }

    private boolean tell(Q q) {
        status = 0;
        told = q;
        return true;
    }

    private boolean noWay(int w) {
        return w < 0 || w >= ways.size();
    }

    private boolean noPoint(int w, int i) {
        return noWay(w) || i < 0 || i >= ways.get(w).count();
    }

    private boolean noEdge(int w, int i) {
        return noPoint(w, i) || i == ways.get(w).count() - 1;
    }

    /** STATUS 1, 2, 4 for couples. */
    private int couple(boolean bad, int a, int b) {
        return bad ? 1 : noWay(a) || noWay(b) ? 2 : a == b ? 4 : 0;
    }

    private static boolean badLeash(int n, int d) {
        return n < 0 || n > 100000 || d < 1 || d > 1000;
    }

    public int many(int what) {
        if (what < 0 || what > 2) {
            return no(1);
        }
        return yes(what == 0 ? ways.size() : what == 1 ? ways.stream().mapToInt(Way::count).sum() : undone.size());
    }

    public int way(int w, int what) {
        int tens = Math.floorDiv(what, 10);
        int i = Math.floorMod(what, 10);
        if (tens == 0 ? i > 2 : tens != 1 && tens != 2 || i > 7) {
            return no(1);
        }
        if (noWay(w) || tens > 0 && noPoint(w, i)) {
            return no(2);
        }
        Way a = ways.get(w);
        if (tens > 0) {
            return yes(tens == 1 ? a.at(i).x() : a.at(i).y());
        }
        int sum = 0;
        int most = 0;
        int edge = 0;
        for (int k = 0; k + 1 < a.count(); k++) {
            int s = a.at(k).square(a.at(k + 1));
            sum += s;
            edge = s > most ? k : edge;
            most = Math.max(most, s);
        }
        return yes(what == 0 ? a.count() : what == 1 ? sum : edge);
    }

    public int square(int w, int i, int o, int k) {
        return noPoint(w, i) || noPoint(o, k) ? no(2) : yes(ways.get(w).at(i).square(ways.get(o).at(k)));
    }

    public boolean near(int w, int i, int o, int k) {
        return noPoint(w, i) || noEdge(o, k) ? nay(2) : tell(least(ways.get(o).at(k), ways.get(o).at(k + 1), ways.get(w).at(i)));
    }

    private Q leastToWay(P p, Way b) {
        TreeSet<Q> all = new TreeSet<>();
        for (int k = 0; k + 1 < b.count(); k++) {
            all.add(least(b.at(k), b.at(k + 1), p));
        }
        return all.first();
    }

    public int nearest(int w, int i, int o) {
        if (noPoint(w, i) || noWay(o)) {
            return no(2);
        }
        if (w == o) {
            return no(4);
        }
        P p = ways.get(w).at(i);
        Way b = ways.get(o);
        tell(leastToWay(p, b));
        int k = 0;
        while (!least(b.at(k), b.at(k + 1), p).equals(told)) {
            k++;
        }
        return k;
    }

    public int farthest(int w, int o) {
        status = couple(false, w, o);
        if (status != 0) {
            return NONE;
        }
        TreeSet<Q> all = new TreeSet<>();
        for (P p : ways.get(w).points) {
            all.add(leastToWay(p, ways.get(o)));
        }
        tell(all.last());
        int i = 0;
        while (!leastToWay(ways.get(w).at(i), ways.get(o)).equals(told)) {
            i++;
        }
        return i;
    }

    private static int cross(P a, P b, P c) {
        return (b.x() - a.x()) * (c.y() - a.y()) - (b.y() - a.y()) * (c.x() - a.x());
    }

    private static boolean crossing(P a, P b, P c, P d) {
        return (long) cross(a, b, c) * cross(a, b, d) < 0 && (long) cross(c, d, a) * cross(c, d, b) < 0;
    }

    private static boolean meeting(P a, P b, P c, P d) {
        // Segments meet if they cross or if an end has the SQUARE 0 from the other one.
        return crossing(a, b, c, d) || least(a, b, c).equals(ZERO) || least(a, b, d).equals(ZERO)
            || least(c, d, a).equals(ZERO) || least(c, d, b).equals(ZERO);
    }

    public int meets(int w, int o, int what) {
        if (what != 0 && what != 1) {
            return no(1);
        }
        if (noWay(w) || noWay(o)) {
            return no(2);
        }
        Way a = ways.get(w);
        Way b = ways.get(o);
        int n = 0;
        for (int i = 0; i + 1 < a.count(); i++) {
            for (int k = 0; k + 1 < b.count(); k++) {
                if (w == o && k - i < 2) {
                    continue;
                }
                boolean both = what == 0 ? meeting(a.at(i), a.at(i + 1), b.at(k), b.at(k + 1))
                    : crossing(a.at(i), a.at(i + 1), b.at(k), b.at(k + 1));
                n += both ? 1 : 0;
            }
        }
        return yes(n);
    }

    public int bends(int w, int what) {
        if (what < 0 || what > 3) {
            return no(1);
        }
        if (noWay(w)) {
            return no(2);
        }
        int[] n = new int[4];
        Way a = ways.get(w);
        for (int i = 1; i + 1 < a.count(); i++) {
            int c = cross(a.at(i - 1), a.at(i), a.at(i + 1));
            int[] line = line(a.at(i - 1), a.at(i), a.at(i + 1));
            n[c > 0 ? 0 : c < 0 ? 1 : line[1] > line[0] ? 2 : 3]++;
        }
        return yes(n[what]);
    }

    private int side(boolean bad, int w, int o, boolean left, int i, int j) {
        if (bad) {
            return 1;
        }
        boolean missing = left ? noPoint(w, i) || noEdge(o, j) : noEdge(w, i) || noPoint(o, j);
        return missing ? 2 : w == o ? 4 : 0;
    }

    public int free(int w, int o, boolean left, int i, int j, int n, int d, int what) {
        status = side(badLeash(n, d) || what != 0 && what != 1, w, o, left, i, j);
        if (status != 0) {
            return NONE;
        }
        Place[] free = new Diagram(ways.get(w), ways.get(o), Q.of(n, d)).free[left ? 1 : 0][i][j];
        return free == null ? no(5) : yes(free[what].thousandths());
    }

    public int low(int w, int o, boolean left, int i, int j, int n, int d) {
        status = side(badLeash(n, d), w, o, left, i, j);
        if (status != 0) {
            return NONE;
        }
        Place low = new Diagram(ways.get(w), ways.get(o), Q.of(n, d)).low[left ? 1 : 0][i][j];
        return low == null ? no(5) : yes(low.thousandths());
    }

    public int sides(int w, int o, int n, int d, int what) {
        status = couple(badLeash(n, d) || what < 0 || what > 2, w, o);
        if (status != 0) {
            return NONE;
        }
        Diagram diagram = new Diagram(ways.get(w), ways.get(o), Q.of(n, d));
        int[] found = new int[3];
        for (int left = 0; left < 2; left++) {
            for (int i = 0; i < 9; i++) {
                for (int j = 0; j < 9; j++) {
                    Place[] free = diagram.free[left][i][j];
                    found[0] += free != null ? 1 : 0;
                    found[1] += diagram.low[left][i][j] != null ? 1 : 0;
                    found[2] += free != null && free[0].compare(Place.START) == 0
                        && free[1].compare(Place.END) == 0 ? 1 : 0;
                }
            }
        }
        return yes(found[what]);
    }

    public int enough(int w, int o, int kind, int n, int d) {
        status = couple(kind < 0 || kind > 2 || badLeash(n, d), w, o);
        return status != 0 ? NONE : isEnough(ways.get(w), ways.get(o), kind, Q.of(n, d)) ? 1 : 0;
    }

    public boolean shortest(int w, int o, int kind) {
        status = couple(kind < 0 || kind > 2, w, o);
        return status == 0 && tell(shortestOf(ways.get(w), ways.get(o), kind));
    }

    public int criticals(int w, int o, int k) {
        status = couple(k < NONE || k > 1, w, o);
        if (status != 0) {
            return NONE;
        }
        TreeSet<Q> all = allCriticals(ways.get(w), ways.get(o));
        return k == NONE ? all.size() : all.headSet(shortestOf(ways.get(w), ways.get(o), k)).size();
    }

    public boolean critical(int w, int o, int k) {
        status = couple(k < 0, w, o);
        if (status != 0) {
            return false;
        }
        TreeSet<Q> all = allCriticals(ways.get(w), ways.get(o));
        return k >= all.size() ? nay(5) : tell(new ArrayList<>(all).get(k));
    }

    public int walk(int w, int o, int n, int d, int k, boolean ofOther) {
        status = couple(badLeash(n, d) || k < NONE, w, o);
        if (status != 0) {
            return NONE;
        }
        Diagram diagram = new Diagram(ways.get(w), ways.get(o), Q.of(n, d));
        if (!diagram.walk()) {
            return no(5);
        }
        List<int[]> cells = new ArrayList<>();
        int i = diagram.ea - 1;
        int j = diagram.eb - 1;
        boolean leftOverRight = false;
        cells.add(new int[] {i, j});
        while (i > 0 || j > 0) {
            boolean lower = diagram.low[0][i][j] != null;
            boolean left = diagram.low[1][i][j] != null;
            boolean overLower;
            if (i == 0) {
                overLower = true;
            } else if (j == 0) {
                overLower = false;
            } else if (leftOverRight) {
                overLower = lower;
            } else {
                overLower = !left;
            }
            if (overLower) {
                j--;
            } else {
                i--;
            }
            leftOverRight = !overLower;
            cells.add(0, new int[] {i, j});
        }
        if (k == NONE) {
            return yes(cells.size());
        }
        return k >= cells.size() ? no(5) : yes(cells.get(k)[ofOther ? 1 : 0]);
    }

    /** All rows of HOPS, in the order in which the document puts them. */
    private static void rows(Way a, Way b, List<int[]> sofar, List<List<int[]>> all) {
        int[] at = sofar.get(sofar.size() - 1);
        if (at[0] == a.count() - 1 && at[1] == b.count() - 1) {
            all.add(new ArrayList<>(sofar));
            return;
        }
        int[][] moves = {{1, 1}, {1, 0}, {0, 1}};
        for (int[] move : moves) {
            int[] next = {at[0] + move[0], at[1] + move[1]};
            if (next[0] < a.count() && next[1] < b.count()) {
                sofar.add(next);
                rows(a, b, sofar, all);
                sofar.remove(sofar.size() - 1);
            }
        }
    }

    private static List<List<int[]>> allRows(Way a, Way b) {
        List<List<int[]>> all = new ArrayList<>();
        List<int[]> sofar = new ArrayList<>();
        sofar.add(new int[] {0, 0});
        rows(a, b, sofar, all);
        return all;
    }

    public int hops(int w, int o, int k, boolean ofOther) {
        status = couple(k < NONE, w, o);
        if (status != 0) {
            return NONE;
        }
        Way a = ways.get(w);
        Way b = ways.get(o);
        Q e = shortestOf(a, b, 2);
        for (List<int[]> row : allRows(a, b)) {
            if (row.stream().allMatch(at -> Diagram.within(a.at(at[0]).square(b.at(at[1])), e))) {
                if (k == NONE) {
                    return yes(row.size() - 1);
                }
                return k >= row.size() ? no(5) : yes(row.get(k)[ofOther ? 1 : 0]);
            }
        }
        throw new IllegalStateException("no row");
    }

    public int sums(int w, int o, int what) {
        status = couple(what < 0 || what > 2, w, o);
        if (status != 0) {
            return NONE;
        }
        Way a = ways.get(w);
        Way b = ways.get(o);
        int least = Integer.MAX_VALUE;
        int many = 0;
        List<List<int[]>> all = allRows(a, b);
        for (List<int[]> row : all) {
            int sum = row.stream().mapToInt(at -> a.at(at[0]).square(b.at(at[1]))).sum();
            many = sum < least ? 1 : sum == least ? many + 1 : many;
            least = Math.min(sum, least);
        }
        return yes(what == 0 ? least : what == 1 ? many : all.size());
    }

    public int reach(int w, int o, int n, int d, int what) {
        status = couple(badLeash(n, d) || what < 0 || what > 2, w, o);
        if (status != 0) {
            return NONE;
        }
        Way a = ways.get(w);
        Way b = ways.get(o);
        Diagram diagram = new Diagram(a, b, Q.of(n, d));
        int[] found = {0, NONE, NONE};
        for (int i = 0; i < diagram.ea; i++) {
            for (int j = 0; j < diagram.eb; j++) {
                boolean come = i + j == 0 ? Diagram.within(a.at(0).square(b.at(0)), Q.of(n, d)) : diagram.comeInto(i, j);
                if (come) {
                    found[0]++;
                    found[1] = Math.max(found[1], i);
                    found[2] = Math.max(found[2], j);
                }
            }
        }
        return found[what] == NONE ? no(5) : yes(found[what]);
    }

    /** i, k and the least SHORTEST. */
    private Object[] bestPiece(Way a, Way b) {
        Object[] best = null;
        for (int i = 0; i < b.count(); i++) {
            for (int k = i + 1; k < b.count(); k++) {
                Q e = shortestOf(a, new Way("", b.points.subList(i, k + 1)), 0);
                if (best == null || e.compareTo((Q) best[2]) < 0) {
                    best = new Object[] {i, k, e};
                }
            }
        }
        return best;
    }

    public int piece(int w, int o, int what) {
        status = couple(what != 0 && what != 1, w, o);
        return status != 0 ? NONE : (Integer) bestPiece(ways.get(w), ways.get(o))[what];
    }

    public boolean pieces(int w, int o) {
        status = couple(false, w, o);
        return status == 0 && tell((Q) bestPiece(ways.get(w), ways.get(o))[2]);
    }

    public int ring(int w, int o) {
        status = couple(false, w, o);
        if (status != 0) {
            return NONE;
        }
        Way b = ways.get(o);
        int last = b.count() - 1;
        if (!b.at(0).equals(b.at(last))) {
            return no(5);
        }
        int begin = NONE;
        Q best = null;
        for (int i = 0; i < last; i++) {
            Way from = new Way("");
            for (int k = 0; k <= last; k++) {
                from.points.add(b.at((i + k) % last));
            }
            Q e = shortestOf(ways.get(w), from, 0);
            if (best == null || e.compareTo(best) < 0) {
                best = e;
                begin = i;
            }
        }
        tell(best);
        return begin;
    }

    public int thinned(int w, int n, int d, int what) {
        if (badLeash(n, d) || what != 0 && what != 1) {
            return no(1);
        }
        if (noWay(w)) {
            return no(2);
        }
        Way a = ways.get(w);
        int best = -1;
        for (int set = 0; set < 1 << a.count(); set++) {
            List<Integer> in = new ArrayList<>();
            for (int i = 0; i < a.count(); i++) {
                if ((set >> i & 1) == 1) {
                    in.add(i);
                }
            }
            boolean serves = in.contains(0) && in.contains(a.count() - 1)
                && (best == -1 || in.size() < Integer.bitCount(best));
            for (int k = 1; serves && k < in.size(); k++) {
                int from = in.get(k - 1);
                int to = in.get(k);
                serves = !a.at(from).equals(a.at(to)) && isEnough(new Way("", List.of(a.at(from), a.at(to))),
                    new Way("", a.points.subList(from, to + 1)), 0, Q.of(n, d));
            }
            best = serves ? set : best;
        }
        return yes(what == 0 ? Integer.bitCount(best) : best);
    }

    public int kin(int w) {
        if (noWay(w)) {
            return no(2);
        }
        int kin = NONE;
        Q best = null;
        for (int o = 0; o < ways.size(); o++) {
            if (o != w) {
                Q e = shortestOf(ways.get(w), ways.get(o), 0);
                if (best == null || e.compareTo(best) < 0) {
                    best = e;
                    kin = o;
                }
            }
        }
        return kin == NONE ? no(5) : yes(kin);
    }

    public int middle() {
        if (ways.size() < 2) {
            return no(5);
        }
        int middle = NONE;
        Q best = null;
        for (int w = 0; w < ways.size(); w++) {
            TreeSet<Q> all = new TreeSet<>();
            for (int o = 0; o < ways.size(); o++) {
                if (o != w) {
                    all.add(shortestOf(ways.get(w), ways.get(o), 0));
                }
            }
            if (best == null || all.last().compareTo(best) < 0) {
                best = all.last();
                middle = w;
            }
        }
        return yes(middle);
    }

    public int groups(int w, int n, int d) {
        if (badLeash(n, d) || w < NONE) {
            return no(1);
        }
        if (w != NONE && noWay(w)) {
            return no(2);
        }
        int[] group = new int[ways.size()];
        for (int i = 0; i < group.length; i++) {
            group[i] = i;
        }
        for (int i = 0; i < group.length; i++) {
            for (int k = 0; k < i; k++) {
                if (group[i] != group[k] && isEnough(ways.get(i), ways.get(k), 0, Q.of(n, d))) {
                    int gone = group[i];
                    for (int m = 0; m < group.length; m++) {
                        group[m] = group[m] == gone ? group[k] : group[m];
                    }
                }
            }
        }
        if (w == NONE) {
            return yes((int) java.util.Arrays.stream(group).distinct().count());
        }
        int set = 0;
        for (int m = 0; m < group.length; m++) {
            set |= group[m] == group[w] ? 1 << m : 0;
        }
        return yes(set);
    }

    public boolean without(int w, int i, int o) {
        if (noPoint(w, i) || noWay(o)) {
            return nay(2);
        }
        if (w == o) {
            return nay(4);
        }
        Way less = new Way("", ways.get(w).points);
        less.points.remove(i);
        if (less.count() < 2 || i > 0 && i < less.count() && less.at(i - 1).equals(less.at(i))) {
            return nay(5);
        }
        return tell(shortestOf(less, ways.get(o), 0));
    }

    public boolean turned(int w, int o, int kind) {
        status = couple(kind < 0 || kind > 2, w, o);
        return status == 0 && tell(shortestOf(ways.get(w), ways.get(o).turned(), kind));
    }

    public int print() {
        StringBuilder text = new StringBuilder();
        for (Way a : ways) {
            text.append("way ").append(a.name);
            for (P p : a.points) {
                text.append(' ').append(p.x()).append(' ').append(p.y());
            }
            text.append(';');
        }
        printed = text.toString();
        return yes(printed.length());
    }

    public int out(int i) {
        return i < 0 ? no(1) : i >= printed.length() ? no(5) : yes(printed.charAt(i));
    }

    private void act(int w, List<P> points) {
        undone.add(ways);
        if (undone.size() > 10) {
            undone.remove(0);
        }
        ways = new ArrayList<>(ways);
        ways.set(w, new Way(ways.get(w).name, points));
    }

    private static boolean neighboursAlike(List<P> points) {
        for (int i = 1; i < points.size(); i++) {
            if (points.get(i).equals(points.get(i - 1))) {
                return true;
            }
        }
        return false;
    }

    private static boolean badPoint(int x, int y) {
        return x < 0 || x > 18 || y < 0 || y > 18;
    }

    public int move(int w, int i, int x, int y) {
        if (badPoint(x, y)) {
            return no(1);
        }
        if (noPoint(w, i)) {
            return no(2);
        }
        List<P> points = new ArrayList<>(ways.get(w).points);
        P was = points.set(i, new P(x, y));
        int by = was.square(points.get(i));
        if (by == 0 || neighboursAlike(points)) {
            return no(4);
        }
        act(w, points);
        return yes(by);
    }

    public int add(int w, int i, int x, int y) {
        if (badPoint(x, y)) {
            return no(1);
        }
        if (noWay(w) || i != ways.get(w).count() && noPoint(w, i)) {
            return no(2);
        }
        List<P> points = new ArrayList<>(ways.get(w).points);
        if (points.size() == 8) {
            return no(3);
        }
        points.add(i, new P(x, y));
        if (neighboursAlike(points)) {
            return no(4);
        }
        act(w, points);
        return yes(points.size());
    }

    public int drop(int w, int i) {
        if (noPoint(w, i)) {
            return no(2);
        }
        List<P> points = new ArrayList<>(ways.get(w).points);
        if (points.size() == 2) {
            return no(5);
        }
        points.remove(i);
        if (neighboursAlike(points)) {
            return no(4);
        }
        act(w, points);
        return yes(points.size());
    }

    public int turn(int w) {
        if (noWay(w)) {
            return no(2);
        }
        act(w, ways.get(w).turned().points);
        return yes(ways.get(w).count());
    }

    public int undo() {
        if (undone.isEmpty()) {
            return no(5);
        }
        ways = undone.remove(undone.size() - 1);
        return yes(undone.size());
    }
}
