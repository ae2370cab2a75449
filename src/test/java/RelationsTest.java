import java.util.ArrayList;
import java.util.List;
import java.util.Random;

/**
 * What calls say of one another, on WAYS thrown by chance (the same ones each time): no answer here is known
 * beforehand, but an object that is asked in two ways must agree with itself.
 */
public final class RelationsTest {
    private static final int NONE = TwoLeash.NONE;

    /** POINTS of a WAY, x and y. */
    private record Points(int[][] of) {
        String text(String name) {
            StringBuilder text = new StringBuilder("way " + name);
            for (int[] point : of) {
                text.append(' ').append(point[0]).append(' ').append(point[1]);
            }
            return text + ";";
        }

        int last() {
            return of.length - 1;
        }

        int square(int i, Points other, int k) {
            int byX = of[i][0] - other.of[k][0];
            int byY = of[i][1] - other.of[k][1];
            return byX * byX + byY * byY;
        }

        Points piece(int i, int k) {
            int[][] some = new int[k - i + 1][];
            System.arraycopy(of, i, some, 0, some.length);
            return new Points(some);
        }

        /** A RING that begins at another POINT. */
        Points begun(int i) {
            int[][] round = new int[of.length][];
            for (int n = 0; n < of.length; n++) {
                round[n] = of[(i + n) % last()];
            }
            return new Points(round);
        }

        Points edge() {
            return new Points(new int[][] {of[0], of[last()]});
        }
    }

    /** A FRACTION that was told. */
    private record Told(long top, long bottom) {
        int compare(Told other) {
            return Long.compare(top * other.bottom, other.top * bottom);
        }

        boolean isAtMost(long n, long d) {
            return top * d <= n * bottom;
        }
    }

    private RelationsTest() {
    }

    public static void main(String[] args) {
        for (int seed = 0; seed < 150; seed++) {
            Random random = new Random(seed);
            int widest = new int[] {2, 5, 18}[seed % 3];
            Points one = thrown(random, widest);
            Points two = thrown(random, widest);
            squaresAndNearest(one, two);
            shortestOfKinds(one, two);
            criticalsAndShortest(one, two);
            sidesOneByOne(one, two, random);
            walkOverReachedSides(one, two, random);
            hopsOneByOne(one, two);
            turnedAndWithout(one, two);
            bestPiece(one, two);
            bestBegin(one, thrown(random, widest));
            thinnedSets(one, random);
            kinMiddleGroups(List.of(one, two, thrown(random, widest), thrown(random, widest)), random);
        }
        Checks.end();
    }

    private static Points thrown(Random random, int widest) {
        int[][] of = new int[2 + random.nextInt(7)][2];
        for (int i = 0; i < of.length; i++) {
            do {
                of[i][0] = random.nextInt(widest + 1);
                of[i][1] = random.nextInt(widest + 1);
            } while (i > 0 && of[i][0] == of[i - 1][0] && of[i][1] == of[i - 1][1]);
        }
        return new Points(of);
    }

    private static TwoLeash with(Points one, Points two) {
        return Checks.loaded(one.text("one") + two.text("two"));
    }

    private static Told told(TwoLeash x) {
        return new Told(x.top(), x.bottom());
    }

    private static Told shortest(Points one, Points two, int kind) {
        TwoLeash x = with(one, two);
        x.shortest(0, 1, kind);
        return told(x);
    }

    private static void dueSame(String what, Told got, Told want) {
        Checks.due(what + ", above", got.top, want.top);
        Checks.due(what + ", below", got.bottom, want.bottom);
    }

    private static void squaresAndNearest(Points one, Points two) {
        TwoLeash x = with(one, two);
        int farthest = NONE;
        Told most = null;
        for (int i = 0; i <= one.last(); i++) {
            int nearest = NONE;
            Told least = null;
            for (int k = 0; k < two.last(); k++) {
                int toStart = x.square(0, i, 1, k);
                Checks.due("square", toStart, one.square(i, two, k));
                Checks.due("square the other way", x.square(1, k, 0, i), toStart);
                x.near(0, i, 1, k);
                Told near = told(x);
                Checks.due("no farther than both ends",
                    near.isAtMost(toStart, 1) && near.isAtMost(one.square(i, two, k + 1), 1), true);
                if (nearest == NONE || near.compare(least) < 0) {
                    nearest = k;
                    least = near;
                }
            }
            Checks.due("nearest", x.nearest(0, i, 1), nearest);
            dueSame("its square", told(x), least);
            if (farthest == NONE || least.compare(most) > 0) {
                farthest = i;
                most = least;
            }
        }
        Checks.due("farthest", x.farthest(0, 1), farthest);
        dueSame("its square", told(x), most);
    }

    private static void shortestOfKinds(Points one, Points two) {
        TwoLeash x = with(one, two);
        Told[] kinds = new Told[3];
        for (int kind = 0; kind < 3; kind++) {
            x.shortest(0, 1, kind);
            kinds[kind] = told(x);
            x.shortest(1, 0, kind);
            dueSame("shortest of both the other way", told(x), kinds[kind]);
            for (int d : new int[] {1, 7, 1000}) {
                long just = kinds[kind].top * d / kinds[kind].bottom;
                for (long n = Math.max(0, just - 1); n <= Math.min(100000, just + 2); n++) {
                    int due = kinds[kind].isAtMost(n, d) ? 1 : 0;
                    Checks.due("enough of " + n + " by " + d, x.enough(0, 1, kind, (int) n, d), due);
                }
            }
        }
        Checks.due("who may go back need no more", kinds[1].compare(kinds[0]) <= 0, true);
        Checks.due("who hop need no less", kinds[2].compare(kinds[0]) >= 0, true);
    }

    private static void criticalsAndShortest(Points one, Points two) {
        TwoLeash x = with(one, two);
        int all = x.criticals(0, 1, NONE);
        // An object is good for 512 calls: so the list is read from several.
        Told before = new Told(-1, 1);
        List<Told> list = new ArrayList<>();
        for (int k = 0; k < all; k++) {
            if (k % 100 == 99) {
                x = with(one, two);
            }
            Checks.due("critical " + k, x.critical(0, 1, k), true);
            Checks.due("rising", before.compare(told(x)) < 0, true);
            before = told(x);
            list.add(before);
        }
        Checks.dueRefused("not so many", x, x.critical(0, 1, all), 5);
        for (int kind = 0; kind < 2; kind++) {
            int at = x.criticals(0, 1, kind);
            x.shortest(0, 1, kind);
            dueSame("shortest is the critical behind those below", told(x), list.get(at));
        }
    }

    private static int[] leash(Points one, Points two, Random random) {
        Told some = shortest(one, two, random.nextInt(2));
        int d = 1 + random.nextInt(1000 / (int) Math.min(some.bottom, 1000));
        long n = some.top * d / some.bottom + random.nextInt(3) - random.nextInt(2);
        if (random.nextBoolean() && some.bottom <= 1000 && some.top <= 100000) {
            return new int[] {(int) some.top, (int) some.bottom};
        }
        return new int[] {(int) Math.max(0, Math.min(n, 100000)), d};
    }

    private static void sidesOneByOne(Points one, Points two, Random random) {
        int[] e = leash(one, two, random);
        int[] counts = new int[3];
        for (boolean left : new boolean[] {false, true}) {
            Points edges = left ? two : one;
            Points points = left ? one : two;
            for (int edge = 0; edge < edges.last(); edge++) {
                TwoLeash x = with(one, two);
                for (int point = 0; point <= points.last(); point++) {
                    int i = left ? point : edge;
                    int j = left ? edge : point;
                    boolean start = (long) points.square(point, edges, edge) * e[1] <= e[0];
                    boolean end = (long) points.square(point, edges, edge + 1) * e[1] <= e[0];
                    int first = x.free(0, 1, left, i, j, e[0], e[1], 0);
                    int last = x.free(0, 1, left, i, j, e[0], e[1], 1);
                    int low = x.low(0, 1, left, i, j, e[0], e[1]);
                    Checks.due("from the start", first == 0 || !start, true);
                    Checks.due("to the end", last == 1000, end);
                    Checks.due("low is where it is free", low == NONE || low >= first && low <= last, true);
                    x.near(left ? 0 : 1, point, left ? 1 : 0, edge);
                    Checks.due("free if the least square lets", first != NONE, told(x).isAtMost(e[0], e[1]));
                    counts[0] += first != NONE ? 1 : 0;
                    counts[1] += low != NONE ? 1 : 0;
                    counts[2] += start && end ? 1 : 0;
                }
            }
        }
        TwoLeash x = with(one, two);
        for (int what = 0; what < 3; what++) {
            Checks.due("sides " + what, x.sides(0, 1, e[0], e[1], what), counts[what]);
        }
    }

    private static void walkOverReachedSides(Points one, Points two, Random random) {
        int[] e = leash(one, two, random);
        TwoLeash x = with(one, two);
        int cells = x.walk(0, 1, e[0], e[1], NONE, false);
        Checks.due("a walk where e is enough", cells != NONE ? 1 : 0, x.enough(0, 1, 0, e[0], e[1]));
        if (cells == NONE) {
            return;
        }
        Checks.due("as many as steps and one", cells, one.last() + two.last() - 1);
        int atI = 0;
        int atJ = 0;
        for (int k = 0; k < cells; k++) {
            int i = x.walk(0, 1, e[0], e[1], k, false);
            int j = x.walk(0, 1, e[0], e[1], k, true);
            Checks.due("one step", i - atI + j - atJ, k == 0 ? 0 : 1);
            Checks.due("not back", i >= atI && j >= atJ, true);
            x.low(0, 1, i > atI, i, j, e[0], e[1]);
            Checks.due("over a reached side", x.status(), 0);
            atI = i;
            atJ = j;
        }
        Checks.due("at last", atI == one.last() - 1 && atJ == two.last() - 1, true);
        Checks.due("reach has them", x.reach(0, 1, e[0], e[1], 0) >= cells, true);
        Checks.due("greatest edge", x.reach(0, 1, e[0], e[1], 1), atI);
        Checks.due("greatest edge of the other", x.reach(0, 1, e[0], e[1], 2), atJ);
    }

    private static void hopsOneByOne(Points one, Points two) {
        TwoLeash x = with(one, two);
        int hops = x.hops(0, 1, NONE, false);
        int most = 0;
        int sum = 0;
        int i = 0;
        int j = 0;
        for (int k = 0; k <= hops; k++) {
            int nextI = x.hops(0, 1, k, false);
            int nextJ = x.hops(0, 1, k, true);
            boolean hop = nextI - i <= 1 && nextJ - j <= 1 && nextI >= i && nextJ >= j && nextI + nextJ > i + j;
            Checks.due("a hop", k == 0 ? nextI == 0 && nextJ == 0 : hop, true);
            i = nextI;
            j = nextJ;
            most = Math.max(most, one.square(i, two, j));
            sum += one.square(i, two, j);
        }
        Checks.due("at the last ones", i == one.last() && j == two.last(), true);
        x.shortest(0, 1, 2);
        dueSame("by shortest of hops", told(x), new Told(most, 1));
        Checks.due("no less than the least sum", sum >= x.sums(0, 1, 0), true);
        Checks.due("sums of both the other way", x.sums(1, 0, 0), x.sums(0, 1, 0));
        Checks.due("rows of both the other way", x.sums(1, 0, 1), x.sums(0, 1, 1));
        Checks.due("rows at all", x.sums(0, 1, 2), rows(one.last(), two.last()));
        Checks.due("rows with the least sum", x.sums(0, 1, 1) >= 1 && x.sums(0, 1, 1) <= x.sums(0, 1, 2), true);
    }

    private static int rows(int hops, int others) {
        return hops == 0 || others == 0 ? 1
            : rows(hops - 1, others) + rows(hops, others - 1) + rows(hops - 1, others - 1);
    }

    private static void turnedAndWithout(Points one, Points two) {
        TwoLeash x = with(one, two);
        for (int kind = 0; kind < 3; kind++) {
            x.turned(0, 1, kind);
            Told turned = told(x);
            x.turn(1);
            x.shortest(0, 1, kind);
            dueSame("turned as if it was turned", turned, told(x));
            x.undo();
        }
        for (int i = 0; i <= one.last(); i++) {
            boolean can = x.without(0, i, 1);
            Told without = told(x);
            Checks.due("without where it can be dropped", x.drop(0, i) != NONE, can);
            if (can) {
                x.shortest(0, 1, 0);
                dueSame("without as if it was dropped", without, told(x));
                x.undo();
            }
        }
        Checks.duePrinted("as it was", x, one.text("one") + two.text("two"));
    }

    private static void bestPiece(Points one, Points two) {
        int first = NONE;
        int last = NONE;
        Told least = null;
        for (int i = 0; i < two.last(); i++) {
            for (int k = i + 1; k <= two.last(); k++) {
                Told shortest = shortest(one, two.piece(i, k), 0);
                if (least == null || shortest.compare(least) < 0) {
                    first = i;
                    last = k;
                    least = shortest;
                }
            }
        }
        TwoLeash x = with(one, two);
        Checks.due("first point of the piece", x.piece(0, 1, 0), first);
        Checks.due("last point of the piece", x.piece(0, 1, 1), last);
        x.pieces(0, 1);
        dueSame("its shortest", told(x), least);
    }

    private static void bestBegin(Points one, Points other) {
        int[][] closed = new int[Math.min(other.of.length + 1, 8)][];
        System.arraycopy(other.of, 0, closed, 0, closed.length - 1);
        closed[closed.length - 1] = closed[0];
        Points ring = new Points(closed);
        if (ring.square(ring.last() - 1, ring, ring.last()) == 0) {
            return;
        }
        int begin = NONE;
        Told least = null;
        for (int i = 0; i < ring.last(); i++) {
            Told shortest = shortest(one, ring.begun(i), 0);
            if (begin == NONE || shortest.compare(least) < 0) {
                begin = i;
                least = shortest;
            }
        }
        TwoLeash x = with(one, ring);
        Checks.due("where the ring begins", x.ring(0, 1), begin);
        dueSame("its shortest", told(x), least);
    }

    /** Each set of POINTS as bits, each step of it as two WAYS of their own. */
    private static void thinnedSets(Points one, Random random) {
        int n = random.nextInt(40);
        int d = 1 + random.nextInt(4);
        int last = one.last();
        boolean[][] serves = new boolean[last + 1][last + 1];
        for (int i = 0; i <= last; i++) {
            for (int k = i + 1; k <= last; k++) {
                Points piece = one.piece(i, k);
                serves[i][k] = piece.square(0, piece, piece.last()) > 0
                    && with(piece.edge(), piece).enough(0, 1, 0, n, d) == 1;
            }
        }
        int fewest = 0;
        for (int set = 1 << last; set < 2 << last; set++) {
            boolean fewer = fewest == 0 || Integer.bitCount(set) < Integer.bitCount(fewest);
            if (fewer && isServed(set, serves)) {
                fewest = set;
            }
        }
        TwoLeash x = with(one, one);
        Checks.due("thinned set of " + one.text("one"), x.thinned(0, n, d, 1), fewest);
        Checks.due("thinned points", x.thinned(0, n, d, 0), Integer.bitCount(fewest));
    }

    private static boolean isServed(int set, boolean[][] serves) {
        if ((set & 1) == 0) {
            return false;
        }
        int from = 0;
        for (int to = 1; to < serves.length; to++) {
            if ((set >> to & 1) != 0) {
                if (!serves[from][to]) {
                    return false;
                }
                from = to;
            }
        }
        return true;
    }

    private static void kinMiddleGroups(List<Points> ways, Random random) {
        StringBuilder text = new StringBuilder();
        for (int way = 0; way < ways.size(); way++) {
            text.append(ways.get(way).text("w" + "abcd".charAt(way)));
        }
        TwoLeash x = Checks.loaded(text.toString());
        int[] e = leash(ways.get(0), ways.get(1), random);
        int[] group = {1, 2, 4, 8};
        int middle = NONE;
        Told leastOfGreatest = null;
        for (int way = 0; way < 4; way++) {
            int kin = NONE;
            Told least = null;
            Told greatest = null;
            for (int other = 0; other < 4; other++) {
                if (other != way) {
                    x.shortest(way, other, 0);
                    Told shortest = told(x);
                    kin = kin == NONE || shortest.compare(least) < 0 ? other : kin;
                    least = least == null || shortest.compare(least) < 0 ? shortest : least;
                    greatest = greatest == null || shortest.compare(greatest) > 0 ? shortest : greatest;
                    join(group, way, other, shortest.isAtMost(e[0], e[1]));
                }
            }
            Checks.due("kin", x.kin(way), kin);
            middle = middle == NONE || greatest.compare(leastOfGreatest) < 0 ? way : middle;
            leastOfGreatest = middle == way ? greatest : leastOfGreatest;
        }
        Checks.due("middle", x.middle(), middle);
        int groups = 0;
        for (int way = 0; way < 4; way++) {
            Checks.due("group of " + way, x.groups(way, e[0], e[1]), group[way]);
            groups += Integer.numberOfTrailingZeros(group[way]) == way ? 1 : 0;
        }
        Checks.due("groups", x.groups(NONE, e[0], e[1]), groups);
    }

    private static void join(int[] group, int way, int other, boolean together) {
        int both = group[way] | group[other];
        for (int one = 0; together && one < group.length; one++) {
            group[one] = (both >> one & 1) != 0 ? both : group[one];
        }
    }
}
