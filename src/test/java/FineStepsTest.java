import java.util.Arrays;
import java.util.Random;

/**
 * SHORTEST against what it means: walkers who go along both WAYS by small steps need a leash that is no shorter
 * than SHORTEST, and longer by less than a step. Neither cells nor roots are known here.
 */
public final class FineStepsTest {
    private static final int STEPS = 24;
    private static final double FAR = 1e9;

    private FineStepsTest() {
    }

    public static void main(String[] args) {
        for (int seed = 0; seed < 200; seed++) {
            Random random = new Random(seed);
            int widest = 2 + random.nextInt(17);
            int[][] one = thrown(random, widest);
            int[][] two = thrown(random, widest);
            String text = text("one", one) + text("two", two);
            TwoLeash x = Checks.loaded(text);
            double[][] squares = squares(fine(one), fine(two));
            double step = Math.max(longest(one), longest(two)) / STEPS;
            x.shortest(0, 1, 0);
            dueAbout("WALK of " + text, x, goOn(squares), step);
            x.shortest(0, 1, 1);
            dueAbout("WEAK of " + text, x, goAnyWay(squares), step);
        }
        Checks.end();
    }

    private static int[][] thrown(Random random, int widest) {
        int[][] points = new int[2 + random.nextInt(7)][2];
        for (int i = 0; i < points.length; i++) {
            do {
                points[i][0] = random.nextInt(widest + 1);
                points[i][1] = random.nextInt(widest + 1);
            } while (i > 0 && points[i][0] == points[i - 1][0] && points[i][1] == points[i - 1][1]);
        }
        return points;
    }

    private static String text(String name, int[][] points) {
        StringBuilder text = new StringBuilder("way " + name);
        for (int[] point : points) {
            text.append(' ').append(point[0]).append(' ').append(point[1]);
        }
        return text + ";";
    }

    private static void dueAbout(String what, TwoLeash x, double square, double step) {
        double shortest = Math.sqrt((double) x.top() / x.bottom());
        double leash = Math.sqrt(square);
        Checks.due(what + ": " + shortest + " for " + leash, leash >= shortest - 1e-9 && leash < shortest + step, true);
    }

    private static double longest(int[][] points) {
        double longest = 0;
        for (int i = 1; i < points.length; i++) {
            longest = Math.max(longest, Math.hypot(points[i][0] - points[i - 1][0], points[i][1] - points[i - 1][1]));
        }
        return longest;
    }

    private static double[][] fine(int[][] points) {
        double[][] places = new double[(points.length - 1) * STEPS + 1][2];
        for (int n = 0; n < places.length; n++) {
            int edge = Math.min(n / STEPS, points.length - 2);
            double along = (double) (n - edge * STEPS) / STEPS;
            for (int axis = 0; axis < 2; axis++) {
                places[n][axis] = points[edge][axis] + (points[edge + 1][axis] - points[edge][axis]) * along;
            }
        }
        return places;
    }

    private static double[][] squares(double[][] one, double[][] two) {
        double[][] squares = new double[one.length][two.length];
        for (int i = 0; i < one.length; i++) {
            for (int j = 0; j < two.length; j++) {
                double byX = one[i][0] - two[j][0];
                double byY = one[i][1] - two[j][1];
                squares[i][j] = byX * byX + byY * byY;
            }
        }
        return squares;
    }

    private static double goOn(double[][] squares) {
        double[][] needed = new double[squares.length][squares[0].length];
        for (int i = 0; i < squares.length; i++) {
            for (int j = 0; j < squares[0].length; j++) {
                double before = i == 0 && j == 0 ? 0 : FAR;
                before = i > 0 ? Math.min(before, needed[i - 1][j]) : before;
                before = j > 0 ? Math.min(before, needed[i][j - 1]) : before;
                before = i > 0 && j > 0 ? Math.min(before, needed[i - 1][j - 1]) : before;
                needed[i][j] = Math.max(before, squares[i][j]);
            }
        }
        return needed[squares.length - 1][squares[0].length - 1];
    }

    /** Goes over the table, to and fro, till nothing needs less. */
    private static double goAnyWay(double[][] squares) {
        int rows = squares.length;
        int columns = squares[0].length;
        double[][] needed = new double[rows][columns];
        for (double[] row : needed) {
            Arrays.fill(row, FAR);
        }
        needed[0][0] = squares[0][0];
        boolean changed = true;
        for (int round = 0; changed; round++) {
            changed = false;
            for (int n = 0; n < rows * columns; n++) {
                int at = round % 2 == 0 ? n : rows * columns - 1 - n;
                int i = at / columns;
                int j = at % columns;
                double less = Math.max(squares[i][j], leastBeside(needed, i, j));
                if (less < needed[i][j]) {
                    needed[i][j] = less;
                    changed = true;
                }
            }
        }
        return needed[rows - 1][columns - 1];
    }

    private static double leastBeside(double[][] needed, int i, int j) {
        double least = FAR;
        for (int row = Math.max(0, i - 1); row <= Math.min(needed.length - 1, i + 1); row++) {
            for (int column = Math.max(0, j - 1); column <= Math.min(needed[0].length - 1, j + 1); column++) {
                least = Math.min(least, needed[row][column]);
            }
        }
        return least;
    }
}
