import java.util.ArrayList;
import java.util.List;
import java.util.Random;

/** Ways over the whole field, where fractions are longest: leashes at a change, just below, just above. */
public final class ExactTest {
    private static final int PARTS = 40;

    private ExactTest() {
    }

    public static void main(String[] args) {
        Random random = new Random(20261118);
        for (int n = 0; n < 60; n++) {
            shortestAndCriticals(newWay(random, 8), newWay(random, 8));
        }
        for (int n = 0; n < 200; n++) {
            Oracle.Way one = newWay(random, 2 + random.nextInt(4));
            Oracle.Way two = newWay(random, 2 + random.nextInt(4));
            shortestAndCriticals(one, two);
            aboutShortest(one, two);
            byManySmallHops(one, two);
        }
        placesThatTouch();
        thousandthsAtTheirEdge();
        Checks.end();
    }

    private static Oracle.Way newWay(Random random, int points) {
        Oracle.Way way = new Oracle.Way("");
        while (way.count() < points) {
            Oracle.P next = new Oracle.P(random.nextInt(19), random.nextInt(19));
            if (way.count() == 0 || !way.at(way.count() - 1).equals(next)) {
                way.points.add(next);
            }
        }
        return way;
    }

    private static String textOf(Oracle.Way one, Oracle.Way two) {
        StringBuilder text = new StringBuilder("way a");
        one.points.forEach(p -> text.append(' ').append(p.x()).append(' ').append(p.y()));
        text.append(";way b");
        two.points.forEach(p -> text.append(' ').append(p.x()).append(' ').append(p.y()));
        return text.append(';').toString();
    }

    private static void shortestAndCriticals(Oracle.Way one, Oracle.Way two) {
        String text = textOf(one, two);
        TwoLeash x = Checks.loaded(text);
        for (int kind = 0; kind < 3; kind++) {
            Oracle.Q due = Oracle.shortestOf(one, two, kind);
            String call = "shortest " + kind + " of " + text;
            Checks.dueFraction(call, x, x.shortest(0, 1, kind), due.n().longValue(), due.d().longValue());
        }
        List<Oracle.Q> all = new ArrayList<>(Oracle.allCriticals(one, two));
        Checks.dueFine("criticals of " + text, x, x.criticals(1, 0, -1), all.size());
        for (int k = 0; k < all.size(); k++) {
            Oracle.Q due = all.get(k);
            String call = "critical " + k + " of " + text;
            x = k % 100 == 99 ? Checks.loaded(text) : x;
            Checks.dueFraction(call, x, x.critical(0, 1, k), due.n().longValue(), due.d().longValue());
        }
    }

    /** The nearest leashes that a call can tell, on both sides of SHORTEST. */
    private static void aboutShortest(Oracle.Way one, Oracle.Way two) {
        String text = textOf(one, two);
        TwoLeash x = Checks.loaded(text);
        for (int kind = 0; kind < 3; kind++) {
            x.shortest(0, 1, kind);
            long top = x.top();
            long bottom = x.bottom();
            for (int d = 1000; d > 0; d -= 37) {
                long above = (top * d + bottom - 1) / bottom;
                if (above > 0 && above <= 100000) {
                    String call = "enough " + kind + " about " + above + " by " + d + " of " + text;
                    Checks.dueFine(call, x, x.enough(0, 1, kind, (int) above, d), 1);
                    Checks.dueFine("not " + call, x, x.enough(0, 1, kind, (int) above - 1, d), 0);
                }
            }
        }
    }

    /** Hops over many points on each edge need a little more than a walk, and no more than a step of them. */
    private static void byManySmallHops(Oracle.Way one, Oracle.Way two) {
        TwoLeash x = Checks.loaded(textOf(one, two));
        x.shortest(0, 1, 0);
        double walk = Math.sqrt((double) x.top() / x.bottom());
        double[][] a = parted(one);
        double[][] b = parted(two);
        double[][] needed = new double[a.length][b.length];
        for (int i = 0; i < a.length; i++) {
            for (int j = 0; j < b.length; j++) {
                double ahead = i + j == 0 ? 0 : Double.MAX_VALUE;
                ahead = i > 0 ? Math.min(ahead, needed[i - 1][j]) : ahead;
                ahead = j > 0 ? Math.min(ahead, needed[i][j - 1]) : ahead;
                ahead = i > 0 && j > 0 ? Math.min(ahead, needed[i - 1][j - 1]) : ahead;
                needed[i][j] = Math.max(ahead, Math.hypot(a[i][0] - b[j][0], a[i][1] - b[j][1]));
            }
        }
        double hops = needed[a.length - 1][b.length - 1];
        double step = Math.hypot(18, 18) / PARTS;
        Checks.due("walk " + walk + " by small hops " + hops, walk <= hops + 1e-9 && walk >= hops - step, true);
    }

    private static double[][] parted(Oracle.Way way) {
        double[][] all = new double[(way.count() - 1) * PARTS + 1][];
        for (int n = 0; n < all.length; n++) {
            int i = Math.min(n / PARTS, way.count() - 2);
            double t = (n - i * PARTS) / (double) PARTS;
            Oracle.P from = way.at(i);
            Oracle.P to = way.at(i + 1);
            all[n] = new double[] {from.x() + t * (to.x() - from.x()), from.y() + t * (to.y() - from.y())};
        }
        return all;
    }

    /** Two circles that touch on an edge at one place: it counts, and a little less does not. */
    private static void placesThatTouch() {
        TwoLeash x = Checks.loaded("way a 0 0 18 0;way b 0 0 12 4 7 6 18 0;");
        // (t - 12)^2 + 16 = (t - 7)^2 + 36: t is 15 by 2, the square 145 by 4
        Checks.dueFraction("touching circles", x, x.shortest(0, 1, 0), 145, 4);
        Checks.dueFine("LOW of both", x, x.low(0, 1, false, 0, 2, 145, 4), 416);
        Checks.dueFine("the last place of the second", x, x.free(0, 1, false, 0, 2, 36000, 1000, 1), 388);
        Checks.dueFine("just at it", x, x.enough(0, 1, 0, 145, 4), 1);
        Checks.dueFine("just below it", x, x.enough(0, 1, 0, 36249, 1000), 0);
        Checks.dueRefused("not REACHED just below it", x, x.low(0, 1, false, 0, 2, 36249, 1000), 5);
        TwoLeash y = Checks.loaded("way b 0 0 12 4 7 6 18 0;way a 0 0 18 0;");
        Checks.dueFine("LEFT likewise", y, y.low(0, 1, true, 2, 0, 145, 4), 416);
        Checks.dueRefused("LEFT likewise", y, y.low(0, 1, true, 2, 0, 36249, 1000), 5);
    }

    /** Places that are just a number of thousandths, and just less. */
    private static void thousandthsAtTheirEdge() {
        TwoLeash x = Checks.loaded("way a 0 0 10 0;way b 5 0 5 5;");
        for (int k = 1; k < 50; k++) {
            // 5 + k by 10 has the square k k by 100 from (5, 0)
            Checks.dueFine("last at " + k, x, x.free(0, 1, false, 0, 0, k * k, 100, 1), 500 + 10 * k);
            Checks.dueFine("first at " + k, x, x.free(0, 1, false, 0, 0, k * k, 100, 0), 500 - 10 * k);
            Checks.dueFine("last below " + k, x, x.free(0, 1, false, 0, 0, k * k * 10 - 1, 1000, 1), 500 + 10 * k - 1);
            boolean little = k < 5;
            Checks.dueFine("first below " + k, x, x.free(0, 1, false, 0, 0, k * k * 10 - 1, 1000, 0),
                500 - 10 * k + (little ? firstMore(k) : 0));
        }
    }

    /** By how many thousandths a root of k k by 100 less 1 by 1000 comes short, where that is 1 or more. */
    private static int firstMore(int k) {
        return (int) Math.floor(10 * k - 100 * Math.sqrt(k * k / 100.0 - 0.001) + 1e-12);
    }
}
