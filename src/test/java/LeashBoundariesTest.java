import java.util.ArrayList;
import java.util.List;

/**
 * Sides of cells and leashes (promises 16 to 26): each sentence that names a boundary has a test of its own.
 * What is refused, and in which order, stands in StatusTest.
 */
public final class LeashBoundariesTest {
    private static final int NONE = TwoLeash.NONE;
    private static final int HIGHEST = Integer.MAX_VALUE;

    /** b goes back by 6 of 18: LOWER sides of its POINTS 1 and 2 touch at halfway by 9. */
    private static final String BACK = "way a 0 0 18 0;way b 0 0 12 0 6 0 18 0;";
    /** The same, turned about: what is LOWER there is LEFT here. */
    private static final String BACK_LEFT = "way b 0 0 12 0 6 0 18 0;way a 0 0 18 0;";
    private static final String TO_AND_FRO = " 0 0 18 18 0 0 18 18 0 0 18 18 0 0 18 18;";
    private static final String FRO_AND_TO = " 18 18 0 0 18 18 0 0 18 18 0 0 18 18 0 0;";

    private LeashBoundariesTest() {
    }

    public static void main(String[] args) {
        leashes();
        free();
        low();
        sides();
        enough();
        shortest();
        criticals();
        walks();
        hops();
        sums();
        reach();
        Checks.end();
    }

    // ---- LEASHES

    private static void leashes() {
        leastAndGreatestLeash();
        oneLeashInManyFractions();
    }

    /** "n 0 to 100,000, d 1 to 1,000": all four ends of them are leashes. */
    private static void leastAndGreatestLeash() {
        TwoLeash x = Checks.loaded("way a 0 0 10 0;way b 0 0 10 0;way c 0 10 10 10;");
        Checks.dueFine("0 by 1", x, x.enough(0, 1, 0, 0, 1), 1);
        Checks.dueFine("0 by 1000", x, x.enough(0, 1, 0, 0, 1000), 1);
        Checks.dueFine("100000 by 1", x, x.enough(0, 2, 0, 100000, 1), 1);
        Checks.dueFine("100000 by 1000", x, x.enough(0, 2, 0, 100000, 1000), 1);
        Checks.dueFine("99999 by 1000", x, x.enough(0, 2, 0, 99999, 1000), 0);
        Checks.dueFine("first by 100000 by 1", x, x.free(0, 2, false, 0, 0, 100000, 1, 0), 0);
        Checks.dueFine("last by 100000 by 1", x, x.free(0, 2, false, 0, 0, 100000, 1, 1), 1000);
    }

    /** "As a fraction n by d": 9 by 2 is 4500 by 1000. */
    private static void oneLeashInManyFractions() {
        TwoLeash x = Checks.loaded("way a 0 0 6 6;way b 0 3 3 6;");
        for (int times = 1; times <= 500; times += 17) {
            String by = " by " + 2 * times;
            Checks.dueFine("one place" + by, x, x.free(0, 1, false, 0, 0, 9 * times, 2 * times, 0), 250);
            Checks.dueFine("one place" + by, x, x.free(0, 1, false, 0, 0, 9 * times, 2 * times, 1), 250);
            Checks.dueRefused("nowhere" + by, x, x.free(0, 1, false, 0, 0, 9 * times - 1, 2 * times, 1), 5);
        }
    }

    // ---- promise 16

    private static void free() {
        freeAtOnePlace();
        freeFromOrToAnEnd();
        freeAtAnEndAlone();
        freeInThousandths();
        freeByNothing();
        sidesAboveAndAtTheRight();
    }

    /** "5: it is nowhere": by just the least SQUARE it is FREE at one PLACE, by a little less nowhere. */
    private static void freeAtOnePlace() {
        TwoLeash x = Checks.loaded("way a 0 0 10 0;way b 5 3 5 9;");
        Checks.dueFine("first", x, x.free(0, 1, false, 0, 0, 9, 1, 0), 500);
        Checks.dueFine("last", x, x.free(0, 1, false, 0, 0, 9, 1, 1), 500);
        Checks.dueRefused("nowhere, first", x, x.free(0, 1, false, 0, 0, 8999, 1000, 0), 5);
        Checks.dueRefused("nowhere, last", x, x.free(0, 1, false, 0, 0, 8999, 1000, 1), 5);
        TwoLeash y = Checks.loaded("way b 5 3 5 9;way a 0 0 10 0;");
        Checks.dueFine("LEFT", y, y.free(0, 1, true, 0, 0, 9, 1, 0), 500);
        Checks.dueRefused("LEFT nowhere", y, y.free(0, 1, true, 0, 0, 8999, 1000, 0), 5);
    }

    /** "At most e": by the SQUARE of an end just from there, or to there. */
    private static void freeFromOrToAnEnd() {
        TwoLeash x = Checks.loaded("way a 0 0 10 0;way b 4 3 4 9;");
        Checks.dueFine("from the start", x, x.free(0, 1, false, 0, 0, 25, 1, 0), 0);
        Checks.dueFine("24, 4 less its root of 15", x, x.free(0, 1, false, 0, 0, 24, 1, 0), 12);
        Checks.dueFine("to 800", x, x.free(0, 1, false, 0, 0, 25, 1, 1), 800);
        Checks.dueFine("to the end", x, x.free(0, 1, false, 0, 0, 45, 1, 1), 1000);
        Checks.dueFine("not quite", x, x.free(0, 1, false, 0, 0, 44999, 1000, 1), 999);
        Checks.dueFine("from the start still", x, x.free(0, 1, false, 0, 0, 45, 1, 0), 0);
        TwoLeash y = Checks.loaded("way a 10 0 0 0;way b 4 3 4 9;");
        Checks.dueFine("turned: from the start", y, y.free(0, 1, false, 0, 0, 45, 1, 0), 0);
        Checks.dueFine("turned: to the end", y, y.free(0, 1, false, 0, 0, 25, 1, 1), 1000);
        Checks.dueFine("turned: not quite", y, y.free(0, 1, false, 0, 0, 24999, 1000, 1), 999);
    }

    /** A POINT ahead of its EDGE, or behind it: FREE at PLACE 0, or 1, alone. */
    private static void freeAtAnEndAlone() {
        TwoLeash x = Checks.loaded("way a 5 0 10 0;way b 2 4 13 4;");
        Checks.dueFine("PLACE 0 first", x, x.free(0, 1, false, 0, 0, 25, 1, 0), 0);
        Checks.dueFine("PLACE 0 last", x, x.free(0, 1, false, 0, 0, 25, 1, 1), 0);
        Checks.dueRefused("nowhere, though the line is nearer", x, x.free(0, 1, false, 0, 0, 24999, 1000, 0), 5);
        Checks.dueFine("PLACE 1 first", x, x.free(0, 1, false, 0, 1, 25, 1, 0), 1000);
        Checks.dueFine("PLACE 1 last", x, x.free(0, 1, false, 0, 1, 25, 1, 1), 1000);
        Checks.dueRefused("nowhere, though the line is nearer", x, x.free(0, 1, false, 0, 1, 24999, 1000, 1), 5);
        TwoLeash y = Checks.loaded("way a 5 0 10 0;way b 5 4 10 4;");
        Checks.dueFine("aside of its start", y, y.free(0, 1, false, 0, 0, 16, 1, 1), 0);
        Checks.dueRefused("aside of its start", y, y.free(0, 1, false, 0, 0, 15999, 1000, 1), 5);
        Checks.dueFine("aside of its end", y, y.free(0, 1, false, 0, 1, 16, 1, 0), 1000);
        Checks.dueRefused("aside of its end", y, y.free(0, 1, false, 0, 1, 15999, 1000, 0), 5);
    }

    /** "In thousandths, rounded down": whole ones stay, roots go down, first ones, too. */
    private static void freeInThousandths() {
        TwoLeash x = Checks.loaded("way a 0 0 10 0;way b 5 0 5 9;way c 0 0 3 0;way d 0 0 0 9;");
        Checks.dueFine("5 less a root of 1 by 1000", x, x.free(0, 1, false, 0, 0, 1, 1000, 0), 496);
        Checks.dueFine("5 and a root of 1 by 1000", x, x.free(0, 1, false, 0, 0, 1, 1000, 1), 503);
        Checks.dueFine("just 4.5 of 10", x, x.free(0, 1, false, 0, 0, 1, 4, 0), 450);
        Checks.dueFine("just 5.5 of 10", x, x.free(0, 1, false, 0, 0, 1, 4, 1), 550);
        Checks.dueFine("a little more than 4.5", x, x.free(0, 1, false, 0, 0, 249, 1000, 0), 450);
        Checks.dueFine("a little less than 5.5", x, x.free(0, 1, false, 0, 0, 249, 1000, 1), 549);
        Checks.dueFine("a little less than 4.5", x, x.free(0, 1, false, 0, 0, 251, 1000, 0), 449);
        Checks.dueFine("1 of 3", x, x.free(2, 3, false, 0, 0, 1, 1, 1), 333);
        Checks.dueFine("2 of 3", x, x.free(2, 3, false, 0, 0, 4, 1, 1), 666);
    }

    /** A leash of 0: FREE just where the POINT lies on the EDGE. */
    private static void freeByNothing() {
        TwoLeash x = Checks.loaded("way a 0 0 10 0;way b 0 0 4 0 10 0 11 0 4 1;");
        int[] places = {0, 400, 1000};
        for (int j = 0; j < 3; j++) {
            Checks.dueFine("first " + j, x, x.free(0, 1, false, 0, j, 0, 1, 0), places[j]);
            Checks.dueFine("last " + j, x, x.free(0, 1, false, 0, j, 0, 1, 1), places[j]);
        }
        Checks.dueRefused("on the line, behind the edge", x, x.free(0, 1, false, 0, 3, 0, 1, 0), 5);
        Checks.dueRefused("aside", x, x.free(0, 1, false, 0, 4, 0, 1, 0), 5);
    }

    /** "LOWER of i, j and 1 is above it, LEFT of i and 1, j at its right: these are sides, too." */
    private static void sidesAboveAndAtTheRight() {
        TwoLeash x = Checks.loaded("way a 0 0 10 0 10 10;way b 0 3 10 3;");
        Checks.dueFine("above the last cell", x, x.free(0, 1, false, 1, 1, 9, 1, 0), 0);
        Checks.dueFine("above the last cell", x, x.free(0, 1, false, 1, 1, 9, 1, 1), 600);
        Checks.dueRefused("nothing above that", x, x.free(0, 1, false, 1, 2, 9, 1, 0), 2);
        Checks.dueRefused("no LOWER at the right", x, x.free(0, 1, false, 2, 0, 9, 1, 0), 2);
        Checks.dueFine("at the right of the last cell", x, x.free(0, 1, true, 2, 0, 50, 1, 0), 900);
        Checks.dueRefused("nothing at the right of that", x, x.free(0, 1, true, 3, 0, 50, 1, 0), 2);
        Checks.dueRefused("no LEFT above", x, x.free(0, 1, true, 0, 1, 50, 1, 0), 2);
    }

    // ---- promise 17

    private static void low() {
        noneReachedIfTheFirstPointsAreTooFar();
        lowerRimReached();
        leftRimReached();
        whereItIsFreeFirst();
        atTheGreaterOfBoth();
        notBehindTheLastPlace();
        nowhereFreeIsNotReached();
    }

    /** "The SQUARE of both first POINTS is e at most, else none is." */
    private static void noneReachedIfTheFirstPointsAreTooFar() {
        TwoLeash x = Checks.loaded("way a 0 3 9 0;way b 0 0 9 0;");
        Checks.dueFine("just", x, x.sides(0, 1, 9, 1, 1), 4);
        Checks.dueFine("not quite", x, x.sides(0, 1, 8999, 1000, 1), 0);
        Checks.dueRefused("LOWER", x, x.low(0, 1, false, 0, 0, 8999, 1000), 5);
        Checks.dueRefused("LEFT", x, x.low(0, 1, true, 0, 0, 8999, 1000), 5);
        Checks.dueRefused("above", x, x.low(0, 1, false, 0, 1, 8999, 1000), 5);
        Checks.dueRefused("at the right", x, x.low(0, 1, true, 1, 0, 8999, 1000), 5);
        Checks.dueFine("though FREE, but LEFT of 0, 0", x, x.sides(0, 1, 8999, 1000, 0), 3);
    }

    /** "LOWER of i, 0, if POINTS 0 to i of a all have a SQUARE of e at most from POINT 0 of b: LOW 0." */
    private static void lowerRimReached() {
        TwoLeash x = Checks.loaded("way a 0 0 0 3 0 5 0 1 0 2;way b 0 0 18 0;");
        for (int i = 0; i < 4; i++) {
            Checks.dueFine("by 25, " + i, x, x.low(0, 1, false, i, 0, 25, 1), 0);
        }
        Checks.dueFine("by 24, 1", x, x.low(0, 1, false, 1, 0, 24999, 1000), 0);
        Checks.dueRefused("by 24, 2 begins too far away", x, x.low(0, 1, false, 2, 0, 24999, 1000), 5);
        Checks.dueRefused("by 24, 3 is behind it", x, x.low(0, 1, false, 3, 0, 24999, 1000), 5);
        Checks.dueFine("though FREE from 0 on", x, x.free(0, 1, false, 3, 0, 24999, 1000, 0), 0);
        Checks.dueFine("by 9, 1", x, x.low(0, 1, false, 1, 0, 9, 1), 0);
        Checks.dueRefused("by 8, 1", x, x.low(0, 1, false, 1, 0, 8999, 1000), 5);
        Checks.dueFine("by 0, 0", x, x.low(0, 1, false, 0, 0, 0, 1), 0);
    }

    /** "LEFT of 0, j likewise by POINTS 0 to j of b." */
    private static void leftRimReached() {
        TwoLeash x = Checks.loaded("way b 0 0 18 0;way a 0 0 0 3 0 5 0 1 0 2;");
        for (int j = 0; j < 4; j++) {
            Checks.dueFine("by 25, " + j, x, x.low(0, 1, true, 0, j, 25, 1), 0);
        }
        Checks.dueFine("by 24, 1", x, x.low(0, 1, true, 0, 1, 24999, 1000), 0);
        Checks.dueRefused("by 24, 2 begins too far away", x, x.low(0, 1, true, 0, 2, 24999, 1000), 5);
        Checks.dueRefused("by 24, 3 is behind it", x, x.low(0, 1, true, 0, 3, 24999, 1000), 5);
        Checks.dueRefused("by 8, 1", x, x.low(0, 1, true, 0, 1, 8999, 1000), 5);
        Checks.dueFine("by 0, 0", x, x.low(0, 1, true, 0, 0, 0, 1), 0);
    }

    /** "If LOWER of CELL i, j is REACHED, where it is FREE first", and LOWER by LEFT. */
    private static void whereItIsFreeFirst() {
        TwoLeash x = Checks.loaded("way a 0 0 10 0;way b 0 0 10 0;");
        Checks.dueFine("LEFT at the right", x, x.low(0, 1, true, 1, 0, 4, 1), 800);
        Checks.dueFine("LOWER above", x, x.low(0, 1, false, 0, 1, 4, 1), 800);
        Checks.dueFine("by 0 just the end", x, x.low(0, 1, true, 1, 0, 0, 1), 1000);
        Checks.dueFine("by 100 all", x, x.low(0, 1, true, 1, 0, 100, 1), 0);
    }

    /** "Else if LEFT of that CELL is: at the greater of that and LEFT's LOW." */
    private static void atTheGreaterOfBoth() {
        TwoLeash x = Checks.loaded("way a 0 0 18 0;way b 0 0 12 0 11 0 18 0 2 0 17 0;");
        // LOWER of POINT 1 is FREE from 8 on, of POINT 2 from 7 on, of POINT 3 from 14 on
        Checks.dueFine("LOW is ahead: 8", x, x.low(0, 1, false, 0, 2, 16, 1), 444);
        Checks.dueFine("it is FREE from 7 on", x, x.free(0, 1, false, 0, 2, 16, 1, 0), 388);
        Checks.dueFine("it is FREE later: 14", x, x.low(0, 1, false, 0, 3, 16, 1), 777);
        TwoLeash z = Checks.loaded("way a 0 0 18 0;way b 0 0 5 0 3 0 18 0;");
        Checks.dueFine("LOW is a little ahead of 0", z, z.low(0, 1, false, 0, 2, 24503, 1000), 2);
        Checks.dueFine("it is FREE from 0 on", z, z.free(0, 1, false, 0, 2, 24503, 1000, 0), 0);
        TwoLeash y = Checks.loaded("way b 0 0 12 0 11 0 18 0 2 0 17 0;way a 0 0 18 0;");
        Checks.dueFine("LEFT: LOW is ahead", y, y.low(0, 1, true, 2, 0, 16, 1), 444);
        Checks.dueFine("LEFT: it is FREE later", y, y.low(0, 1, true, 3, 0, 16, 1), 777);
    }

    /** "If it is FREE there yet (not behind the last PLACE)": just at the last PLACE it is. */
    private static void notBehindTheLastPlace() {
        TwoLeash x = Checks.loaded(BACK);
        Checks.dueFine("just at it", x, x.low(0, 1, false, 0, 2, 9, 1), 500);
        Checks.dueRefused("behind it", x, x.low(0, 1, false, 0, 2, 8999, 1000), 5);
        Checks.dueFine("though FREE", x, x.free(0, 1, false, 0, 2, 8999, 1000, 0), 166);
        TwoLeash y = Checks.loaded(BACK_LEFT);
        Checks.dueFine("LEFT just at it", y, y.low(0, 1, true, 2, 0, 9, 1), 500);
        Checks.dueRefused("LEFT behind it", y, y.low(0, 1, true, 2, 0, 8999, 1000), 5);
        TwoLeash z = Checks.loaded("way a 0 0 18 0;way b 0 0 18 5 13 0 18 0;");
        // by 25 POINT 1 is near PLACE 1 alone, and POINT 2 to there: 1 is the last PLACE of both
        Checks.dueFine("just at the end", z, z.low(0, 1, false, 0, 2, 25, 1), 1000);
        Checks.dueRefused("POINT 1 is nowhere near", z, z.low(0, 1, false, 0, 2, 24999, 1000), 5);
        z.move(1, 2, 12, 0);
        Checks.dueRefused("POINT 2 is not near the end", z, z.low(0, 1, false, 0, 2, 25, 1), 5);
    }

    /** "(A side that is nowhere FREE is not REACHED.)" */
    private static void nowhereFreeIsNotReached() {
        TwoLeash x = Checks.loaded("way a 0 0 9 0 9 9;way b 0 1 9 4 9 5;");
        Checks.dueFine("LOWER of 0, 0 is REACHED", x, x.low(0, 1, false, 0, 0, 15, 1), 0);
        Checks.dueFine("LEFT of 0, 0 is REACHED", x, x.low(0, 1, true, 0, 0, 15, 1), 0);
        Checks.dueRefused("the one above is nowhere FREE", x, x.low(0, 1, false, 0, 1, 15, 1), 5);
        Checks.dueRefused("nor by this", x, x.free(0, 1, false, 0, 1, 15, 1, 0), 5);
        Checks.dueFine("by 16 it is", x, x.low(0, 1, false, 0, 1, 16, 1), 1000);
    }

    // ---- promise 18

    private static void sides() {
        sidesOfOneCell();
        sidesOfTheLongestWays();
        sidesFreeAsAWhole();
    }

    /** One CELL has four sides. */
    private static void sidesOfOneCell() {
        TwoLeash x = Checks.loaded("way a 0 0 9 0;way b 9 9 0 9;");
        Checks.dueFine("none FREE", x, x.sides(0, 1, 80, 1, 0), 0);
        Checks.dueFine("all FREE", x, x.sides(0, 1, 81, 1, 0), 4);
        Checks.dueFine("none REACHED", x, x.sides(0, 1, 161, 1, 1), 0);
        Checks.dueFine("all REACHED", x, x.sides(0, 1, 162, 1, 1), 4);
        Checks.dueFine("none as a whole", x, x.sides(0, 1, 161, 1, 2), 0);
        Checks.dueFine("all as a whole", x, x.sides(0, 1, 162, 1, 2), 4);
    }

    /** Two WAYS of 8 POINTS: 7 EDGES by 8 POINTS, twice. */
    private static void sidesOfTheLongestWays() {
        TwoLeash x = Checks.loaded("way a" + TO_AND_FRO + "way b" + FRO_AND_TO);
        for (int what = 0; what < 3; what++) {
            Checks.dueFine("by 648", x, x.sides(0, 1, 648, 1, what), 112);
            Checks.dueFine("by the greatest leash", x, x.sides(1, 0, 100000, 1, what), 112);
        }
        Checks.dueFine("FREE by 0", x, x.sides(0, 1, 0, 1, 0), 112);
        Checks.dueFine("none REACHED by 647", x, x.sides(0, 1, 647, 1, 1), 0);
        Checks.dueFine("none as a whole by 647", x, x.sides(0, 1, 647, 1, 2), 0);
    }

    /** "FREE as a whole (PLACES 0 to 1)": both ends just near enough. */
    private static void sidesFreeAsAWhole() {
        TwoLeash x = Checks.loaded("way a 0 0 4 0;way b 0 3 4 3;");
        Checks.dueFine("25", x, x.sides(0, 1, 25, 1, 2), 4);
        Checks.dueFine("not quite", x, x.sides(0, 1, 24999, 1000, 2), 0);
        TwoLeash y = Checks.loaded("way a 0 0 4 0;way b 2 3 2 9;");
        Checks.dueFine("LOWER of 0, 0 alone", y, y.sides(0, 1, 13, 1, 2), 1);
        Checks.dueFine("none", y, y.sides(0, 1, 12999, 1000, 2), 0);
    }

    // ---- promises 19 and 20

    private static void enough() {
        firstAndLastPointsCount();
        lastCellMustBeReached();
        weakGoesWhicheverWay();
        weakNeedsASideThatIsFree();
        hopsCountBothEnds();
    }

    /** "The SQUARES of both first POINTS, of both last ones are e at most", by WALK and by WEAK. */
    private static void firstAndLastPointsCount() {
        TwoLeash x = Checks.loaded("way a 0 3 9 0;way b 0 0 9 0;way c 0 0 9 3;");
        for (int kind = 0; kind < 3; kind++) {
            Checks.dueFine("first, just", x, x.enough(0, 1, kind, 9, 1), 1);
            Checks.dueFine("first, not quite", x, x.enough(0, 1, kind, 8999, 1000), 0);
            Checks.dueFine("last, just", x, x.enough(1, 2, kind, 9, 1), 1);
            Checks.dueFine("last, not quite", x, x.enough(1, 2, kind, 8999, 1000), 0);
        }
    }

    /** "And LEFT or LOWER of the last CELL is REACHED": both ends near enough are not all. */
    private static void lastCellMustBeReached() {
        TwoLeash x = Checks.loaded("way a 0 0 9 0;way b 0 0 4 5 9 0;");
        Checks.dueFine("by LOWER, just", x, x.enough(0, 1, 0, 25, 1), 1);
        Checks.dueFine("by LOWER, not quite", x, x.enough(0, 1, 0, 24999, 1000), 0);
        Checks.dueFine("by LEFT, just", x, x.enough(1, 0, 0, 25, 1), 1);
        Checks.dueFine("by LEFT, not quite", x, x.enough(1, 0, 0, 24999, 1000), 0);
    }

    /** "Over sides of CELLS that are FREE somewhere, whichever way": backwards, too. */
    private static void weakGoesWhicheverWay() {
        TwoLeash x = Checks.loaded(BACK);
        Checks.dueFine("WEAK by 0", x, x.enough(0, 1, 1, 0, 1), 1);
        Checks.dueFine("WALK by less than 9", x, x.enough(0, 1, 0, 8999, 1000), 0);
        // a must go back over its POINT 1 to come by b's POINTS 1 and 2
        TwoLeash y = Checks.loaded("way a 0 0 9 0 18 0;way b 0 0 12 0 6 0 18 0;");
        Checks.dueFine("WEAK goes back by cells", y, y.enough(0, 1, 1, 0, 1), 1);
        Checks.dueFine("turned about", y, y.enough(1, 0, 1, 0, 1), 1);
        Checks.dueFine("WALK does not", y, y.enough(0, 1, 0, 8999, 1000), 0);
        Checks.dueFine("WALK by 9", y, y.enough(0, 1, 0, 9, 1), 1);
    }

    /** A side that is FREE at one PLACE alone lets through; one that is nowhere does not. */
    private static void weakNeedsASideThatIsFree() {
        TwoLeash x = Checks.loaded("way a 0 0 9 0;way b 0 0 4 5 9 0;");
        Checks.dueFine("just", x, x.enough(0, 1, 1, 25, 1), 1);
        Checks.dueFine("not quite", x, x.enough(0, 1, 1, 24999, 1000), 0);
        Checks.dueFine("turned about, just", x, x.enough(1, 0, 1, 25, 1), 1);
        Checks.dueFine("turned about, not quite", x, x.enough(1, 0, 1, 24999, 1000), 0);
    }

    /** "If no SQUARE of both on the way (these, too) is above e." */
    private static void hopsCountBothEnds() {
        TwoLeash x = Checks.loaded("way a 0 0 5 0 9 0;way b 0 1 5 2 9 1;");
        Checks.dueFine("between, just", x, x.enough(0, 1, 2, 4, 1), 1);
        Checks.dueFine("between, not quite", x, x.enough(0, 1, 2, 3999, 1000), 0);
        TwoLeash y = Checks.loaded("way a 0 0 18 0;way b 0 1 9 1 18 1;");
        Checks.dueFine("nobody stops between POINTS", y, y.enough(0, 1, 2, 82, 1), 1);
        Checks.dueFine("not quite", y, y.enough(0, 1, 2, 81999, 1000), 0);
    }

    private static void shortest() {
        shortestIsNothing();
        shortestIsTheMost();
        shortestOfEachKind();
        shortestIsEnoughAndLessIsNot();
        shortestIsNoMoreThanHops();
    }

    /** 0 by 1, by all KINDS. */
    private static void shortestIsNothing() {
        TwoLeash x = Checks.loaded("way a 3 4 5 6;way b 3 4 5 6;way c 3 4 4 5 5 6;");
        for (int kind = 0; kind < 3; kind++) {
            Checks.dueFraction("alike", x, x.shortest(0, 1, kind), 0, 1);
            Checks.dueFraction("a point more", x, x.shortest(0, 2, kind), kind == 2 ? 2 : 0, 1);
        }
    }

    /** 648 by 1 is the greatest there can be. */
    private static void shortestIsTheMost() {
        TwoLeash x = Checks.loaded("way a" + TO_AND_FRO + "way b" + FRO_AND_TO);
        for (int kind = 0; kind < 3; kind++) {
            Checks.dueFraction("corners", x, x.shortest(0, 1, kind), 648, 1);
        }
    }

    /** The three KINDS are unlike; each the same with the WAYS turned about. */
    private static void shortestOfEachKind() {
        TwoLeash x = Checks.loaded(BACK);
        int[] due = {9, 0, 144};
        for (int kind = 0; kind < 3; kind++) {
            Checks.dueFraction("KIND " + kind, x, x.shortest(0, 1, kind), due[kind], 1);
            Checks.dueFraction("KIND " + kind, x, x.shortest(1, 0, kind), due[kind], 1);
        }
    }

    /** "The least e (any fraction) that is ENOUGH": one that no leash of a call can tell, too. */
    private static void shortestIsEnoughAndLessIsNot() {
        TwoLeash x = Checks.loaded("way a 0 0 18 0;way b 0 0 12 4 7 6 18 0;way c 0 0 17 18;way d 0 0 18 1 17 18;");
        // (t - 12)(t - 12) + 16 is (t - 7)(t - 7) + 36 at 15 by 2
        Checks.dueFraction("145 by 4", x, x.shortest(0, 1, 0), 145, 4);
        Checks.dueFine("just", x, x.enough(0, 1, 0, 36250, 1000), 1);
        Checks.dueFine("not quite", x, x.enough(0, 1, 0, 36249, 1000), 0);
        // a height of 18 18 - 17 over a square of 613: 307 307 by 613
        Checks.dueFraction("94249 by 613", x, x.shortest(2, 3, 0), 94249, 613);
        Checks.dueFraction("94249 by 613", x, x.shortest(2, 3, 1), 94249, 613);
        Checks.dueFine("just", x, x.enough(2, 3, 0, 94249, 613), 1);
        Checks.dueFine("not quite", x, x.enough(2, 3, 0, 94248, 613), 0);
    }

    /** A POINT whose nearest PLACE is a POINT: WALK needs just what HOPS do, and more than both ends. */
    private static void shortestIsNoMoreThanHops() {
        TwoLeash x = Checks.loaded("way a 0 0 4 4 8 0;way b 0 0 4 8 8 0;");
        for (int kind = 0; kind < 3; kind++) {
            Checks.dueFraction("KIND " + kind, x, x.shortest(0, 1, kind), 16, 1);
            Checks.dueFraction("KIND " + kind, x, x.shortest(1, 0, kind), 16, 1);
        }
    }

    // ---- promises 21 and 22

    private static void criticals() {
        criticalsOfEnds();
        criticalsUnlikeAndRising();
        noPlaceAsFarFromBoth();
        everyPlaceAsFarFromBoth();
        placeAtTheEndOfAnEdge();
        placeAtTheStartOfAnEdge();
        placeJustBesideAnEdge();
        pointsAlike();
        criticalsBelowShortest();
        lastOfCriticals();
        greatestCritical();
        mostCriticals();
        criticalsOfOtherWays();
    }

    private static void dueCriticals(String text, long... tops) {
        TwoLeash x = Checks.loaded(text);
        Checks.dueFine("criticals of " + text, x, x.criticals(0, 1, NONE), tops.length);
        Checks.dueFine("turned about", x, x.criticals(1, 0, NONE), tops.length);
        for (int k = 0; k < tops.length; k++) {
            Checks.dueFraction("critical " + k, x, x.critical(0, 1, k), tops[k] / 1000000, tops[k] % 1000000);
            Checks.dueFraction("turned about " + k, x, x.critical(1, 0, k), tops[k] / 1000000, tops[k] % 1000000);
        }
        Checks.dueRefused("no more of " + text, x, x.critical(0, 1, tops.length), 5);
    }

    private static long by(long top, long bottom) {
        return top * 1000000 + bottom;
    }

    /** "SQUARES of both first, of both last POINTS": 1 and 25 here; 9 and 17 are least SQUARES to EDGES. */
    private static void criticalsOfEnds() {
        dueCriticals("way a 0 0 4 0;way b 0 1 0 3;", by(1, 1), by(9, 1), by(17, 1), by(25, 1));
        dueCriticals("way a 4 0 0 0;way b 0 3 0 1;", by(1, 1), by(9, 1), by(17, 1), by(25, 1));
    }

    /** "Unlike ones, rising": one for several that are alike. */
    private static void criticalsUnlikeAndRising() {
        dueCriticals("way a 0 0 1 0;way b 0 0 1 0;", by(0, 1), by(1, 4));
        // heights of 2 by 4 and 1 by 2 would be one
        dueCriticals("way a 1 0 0 0;way b 0 0 1 0;", by(0, 1), by(1, 4), by(1, 1));
    }

    /** Two POINTS of one, no PLACE of the EDGE as far from both: it is behind the EDGE's end, or beside its line. */
    private static void noPlaceAsFarFromBoth() {
        // as far from (0, 1) and (0, 3) is y 2 alone, from (0, 0) and (4, 0) is x 2 alone
        dueCriticals("way a 0 0 4 0;way b 0 1 0 3;", by(1, 1), by(9, 1), by(17, 1), by(25, 1));
    }

    /** "On which there is just one PLACE": not where each PLACE is as far. */
    private static void everyPlaceAsFarFromBoth() {
        dueCriticals("way a 0 0 4 0;way b 2 1 2 3;", by(1, 1), by(5, 1), by(9, 1), by(13, 1));
    }

    /** The one PLACE is just the last one of EDGE 0 of b; EDGE 1 of b is as far from both as a whole: 29. */
    private static void placeAtTheEndOfAnEdge() {
        dueCriticals("way a 0 9 4 9;way b 0 10 2 14 2 2;",
            by(1, 1), by(4, 1), by(81, 5), by(25, 1), by(29, 1), by(49, 1), by(53, 1));
    }

    /** The one PLACE is just the first one of EDGE 1 of b; EDGE 0 of b is as far from both as a whole: 29. */
    private static void placeAtTheStartOfAnEdge() {
        dueCriticals("way a 4 9 0 9;way b 2 2 2 14 0 10;",
            by(1, 1), by(4, 1), by(81, 5), by(25, 1), by(29, 1), by(49, 1), by(53, 1));
    }

    /** The PLACE would be 5 or -1 on an EDGE from 0 to 4: there is none. */
    private static void placeJustBesideAnEdge() {
        // (2, 1) and (4, 3) are as far from (5, 0); x 2 is b's own start
        dueCriticals("way a 0 0 4 0;way b 2 1 4 3;", by(1, 1), by(9, 2), by(5, 1), by(9, 1));
        // (2, 3) and (0, 1) are as far from (-1, 4) over a
        dueCriticals("way a 0 4 4 4;way b 2 3 0 1;", by(1, 1), by(9, 2), by(5, 1), by(9, 1), by(25, 1));
    }

    /** Two POINTS of one that are alike are as far everywhere: no CRITICAL by both. */
    private static void pointsAlike() {
        TwoLeash x = Checks.loaded("way a 0 0 9 0;way b 3 1 3 4 3 1;");
        // 1, 16 below; 10 and 37 of ends; (0, 0) to b 10, (9, 0) to b 37; none of two points of b
        Checks.dueFine("how many", x, x.criticals(0, 1, NONE), 4);
        Checks.dueFraction("1", x, x.critical(0, 1, 0), 1, 1);
        Checks.dueFraction("10", x, x.critical(0, 1, 1), 10, 1);
        Checks.dueFraction("16", x, x.critical(0, 1, 2), 16, 1);
        Checks.dueFraction("37", x, x.critical(0, 1, 3), 37, 1);
    }

    /** "How many of them are below SHORTEST of a KIND k (0, 1)": that one itself is not. */
    private static void criticalsBelowShortest() {
        TwoLeash x = Checks.loaded(BACK);
        Checks.dueFine("WALK, 0 is below 9", x, x.criticals(0, 1, 0), 1);
        Checks.dueFine("WEAK, none is below 0", x, x.criticals(0, 1, 1), 0);
        TwoLeash y = Checks.loaded("way a 0 0 1 0;way b 0 0 1 0;");
        Checks.dueFine("none below the least", y, y.criticals(0, 1, 0), 0);
        TwoLeash z = Checks.loaded("way a 0 0 4 0;way b 0 1 0 3;");
        Checks.dueFine("all but the greatest", z, z.criticals(0, 1, 0), 3);
        Checks.dueFine("all but the greatest", z, z.criticals(0, 1, 1), 3);
    }

    /** "The k-th of CRITICALS (from 0)", "5: there are not so many": of the longest WAYS, too. */
    private static void lastOfCriticals() {
        TwoLeash x = Checks.loaded("way a 0 1 17 3 2 9 18 18 4 1 7 16 3 3 11 0;way b 5 0 16 4 3 8 1 17 5 2 8 15 4 14 18 1;");
        int all = x.criticals(0, 1, NONE);
        Checks.due("many: " + all, all > 100 && all <= 506, true);
        Checks.dueFine("turned about", x, x.criticals(1, 0, NONE), all);
        Checks.due("the last", x.critical(0, 1, all - 1), true);
        Checks.dueRefused("behind it", x, x.critical(0, 1, all), 5);
        Checks.dueRefused("far behind it", x, x.critical(0, 1, HIGHEST), 5);
        for (int kind = 0; kind < 2; kind++) {
            int below = x.criticals(0, 1, kind);
            x.critical(0, 1, below);
            Checks.dueFraction("SHORTEST is one of them", x, x.shortest(0, 1, kind), x.top(), x.bottom());
        }
    }

    /** 648: the SQUARE of two corners. */
    private static void greatestCritical() {
        dueCriticals("way a 0 0 0 1;way b 18 18 17 18;", by(578, 1), by(613, 1), by(648, 1));
        dueCriticals("way a 0 1 0 0;way b 17 18 18 18;", by(578, 1), by(613, 1), by(648, 1));
    }

    /** Both ends, 112 POINTS with EDGES, 392 two POINTS with EDGES: all of them unlike. */
    private static void mostCriticals() {
        String one = "1 14 16 3 1 13 15 7 1 10 15 6 2 16 15 8";
        String two = "10 1 7 18 8 1 9 17 11 1 6 18 7 1 5 18";
        String text = "way a " + one + ";way b " + two + ";";
        List<Oracle.Q> due = new ArrayList<>(Oracle.allCriticals(wayOf(one), wayOf(two)));
        TwoLeash x = Checks.loaded(text);
        Checks.due("the oracle's", due.size(), 506);
        Checks.dueFine("all", x, x.criticals(0, 1, NONE), 506);
        Checks.dueFine("all, turned about", x, x.criticals(1, 0, NONE), 506);
        Checks.dueRefused("no more", x, x.critical(0, 1, 506), 5);
        for (int k = 0; k < 506; k++) {
            x = k % 100 == 0 ? Checks.loaded(text) : x;
            Oracle.Q q = due.get(k);
            Checks.dueFraction("the " + k + "-th", x, x.critical(0, 1, k), q.n().longValue(), q.d().longValue());
        }
    }

    private static Oracle.Way wayOf(String numbers) {
        Oracle.Way way = new Oracle.Way("");
        String[] each = numbers.split(" ");
        for (int i = 0; i < each.length; i += 2) {
            way.points.add(new Oracle.P(Integer.parseInt(each[i]), Integer.parseInt(each[i + 1])));
        }
        return way;
    }

    /** What was asked ahead is forgotten: of other WAYS, of WAYS that were moved. */
    private static void criticalsOfOtherWays() {
        TwoLeash x = Checks.loaded("way a 0 0 4 0;way b 0 1 0 3;way c 2 1 2 3;");
        Checks.dueFine("a and b", x, x.criticals(0, 1, NONE), 4);
        Checks.dueFine("a and c", x, x.criticals(0, 2, NONE), 4);
        Checks.dueFraction("a and c", x, x.critical(0, 2, 1), 5, 1);
        Checks.dueFraction("a and b", x, x.critical(0, 1, 2), 17, 1);
        x.move(1, 1, 0, 4);
        Checks.dueFine("b moved", x, x.criticals(0, 1, NONE), 4);
        Checks.dueFraction("b moved", x, x.critical(0, 1, 1), 16, 1);
        x.shortest(0, 2, 0);
        Checks.dueFraction("b moved", x, x.critical(0, 1, 3), 32, 1);
    }

    // ---- promise 23

    private static void walks() {
        walkOfOneCell();
        walkJustEnough();
        walkOfAllCellsReached();
        walkAlongTheRims();
        walkLeftOverTheRight();
        walkBehindTheLast();
    }

    private static void dueWalk(TwoLeash x, int way, int other, int n, int d, int... cells) {
        Checks.dueFine("cells", x, x.walk(way, other, n, d, NONE, false), cells.length);
        Checks.dueFine("cells", x, x.walk(way, other, n, d, NONE, true), cells.length);
        for (int k = 0; k < cells.length; k++) {
            Checks.dueFine("edge of " + k, x, x.walk(way, other, n, d, k, false), cells[k] / 10);
            Checks.dueFine("other edge of " + k, x, x.walk(way, other, n, d, k, true), cells[k] % 10);
        }
        Checks.dueRefused("not so many", x, x.walk(way, other, n, d, cells.length, false), 5);
    }

    /** "CELLS from 0, 0 to the last one": these are one. */
    private static void walkOfOneCell() {
        TwoLeash x = Checks.loaded("way a 0 0 9 0;way b 0 3 9 3;");
        dueWalk(x, 0, 1, 9, 1, 0);
        dueWalk(x, 1, 0, 100000, 1, 0);
    }

    /** "By an e that is ENOUGH (WALK)", "5: e is not ENOUGH". */
    private static void walkJustEnough() {
        TwoLeash x = Checks.loaded(BACK);
        dueWalk(x, 0, 1, 9, 1, 0, 1, 2);
        Checks.dueRefused("not quite", x, x.walk(0, 1, 8999, 1000, NONE, false), 5);
        Checks.dueRefused("not quite", x, x.walk(0, 1, 8999, 1000, 0, false), 5);
        Checks.dueRefused("WEAK is not asked", x, x.walk(0, 1, 0, 1, NONE, true), 5);
    }

    /** Into the last CELL over LEFT, then LOWER and LEFT by turns, as all of them are REACHED: 13 CELLS at most. */
    private static void walkOfAllCellsReached() {
        TwoLeash x = Checks.loaded("way a" + TO_AND_FRO + "way b" + FRO_AND_TO);
        dueWalk(x, 0, 1, 648, 1, 0, 1, 11, 12, 22, 23, 33, 34, 44, 45, 55, 56, 66);
        TwoLeash y = Checks.loaded("way a 0 0 1 0 2 0;way b 0 0 1 0 2 0;");
        dueWalk(y, 0, 1, 100, 1, 0, 1, 11);
    }

    /** "A CELL of EDGE 0 of a is always come into over LOWER, one of EDGE 0 of b over LEFT." */
    private static void walkAlongTheRims() {
        TwoLeash x = Checks.loaded("way a 0 0 9 0;way b 0 0 3 0 6 0 9 0 9 1;");
        Checks.dueFine("LEFT of the last CELL is REACHED", x, x.low(0, 1, true, 0, 3, 100, 1), 0);
        dueWalk(x, 0, 1, 100, 1, 0, 1, 2, 3);
        Checks.dueFine("LOWER of a CELL is REACHED", x, x.low(1, 0, false, 2, 0, 100, 1), 0);
        dueWalk(x, 1, 0, 100, 1, 0, 10, 20, 30);
        TwoLeash y = Checks.loaded("way a 0 0 1 0 2 0;way b 0 0 1 0 1 1 1 2 1 3;");
        dueWalk(y, 0, 1, 100, 1, 0, 1, 2, 3, 13);
        dueWalk(y, 1, 0, 100, 1, 0, 10, 20, 21, 31);
    }

    /** "A CELL left over its right side was come into over LOWER, if REACHED; one left above: over LEFT, if REACHED." */
    private static void walkLeftOverTheRight() {
        TwoLeash x = Checks.loaded("way a 0 0 6 0 12 0 18 0;way b 0 1 6 1 12 1 18 1;");
        dueWalk(x, 0, 1, 1, 1, 0, 1, 11, 12, 22);
        // both ways are one line: at (10, 0) both corners meet, and by nothing each other side is one place or none
        TwoLeash y = Checks.loaded("way a 0 0 5 0 10 0 10 9;way b 0 0 10 0 10 4 10 9;");
        dueWalk(y, 0, 1, 0, 1, 0, 10, 11, 21, 22);
        dueWalk(y, 1, 0, 0, 1, 0, 1, 11, 12, 22);
        // a's corner is ahead of b's, then b's ahead of a's: a cell left over its right has no LOWER, one above no LEFT
        TwoLeash z = Checks.loaded("way a 0 0 4 0 8 0 18 0;way b 0 0 12 0 15 0 18 0;");
        dueWalk(z, 0, 1, 0, 1, 0, 10, 20, 21, 22);
        dueWalk(z, 1, 0, 0, 1, 0, 1, 2, 12, 22);
    }

    /** "Not so many": the k-th from 0. */
    private static void walkBehindTheLast() {
        TwoLeash x = Checks.loaded(BACK);
        Checks.dueFine("the last", x, x.walk(0, 1, 9, 1, 2, true), 2);
        Checks.dueRefused("behind it", x, x.walk(0, 1, 9, 1, 3, true), 5);
        Checks.dueRefused("far behind it", x, x.walk(0, 1, 9, 1, HIGHEST, true), 5);
    }

    // ---- promises 24 and 25

    private static void hops() {
        hopsOfTwoPoints();
        bothAheadOfOne();
        firstAheadOfOther();
        mostAndFewestHops();
    }

    private static void dueHops(TwoLeash x, int way, int other, int... points) {
        Checks.dueFine("hops", x, x.hops(way, other, NONE, false), points.length - 1);
        Checks.dueFine("hops", x, x.hops(way, other, NONE, true), points.length - 1);
        for (int k = 0; k < points.length; k++) {
            Checks.dueFine("behind " + k, x, x.hops(way, other, k, false), points[k] / 10);
            Checks.dueFine("other behind " + k, x, x.hops(way, other, k, true), points[k] % 10);
        }
        Checks.dueRefused("not so many", x, x.hops(way, other, points.length, false), 5);
        Checks.dueRefused("not so many", x, x.hops(way, other, HIGHEST, true), 5);
    }

    /** "From 0: POINT 0"; the last one behind as many hops as there are. */
    private static void hopsOfTwoPoints() {
        TwoLeash x = Checks.loaded("way a 0 0 9 0;way b 0 3 9 3;");
        dueHops(x, 0, 1, 0, 11);
    }

    /** "Both hop ahead of the first WAY's alone", where all rows are as good. */
    private static void bothAheadOfOne() {
        TwoLeash x = Checks.loaded("way a 0 0 1 0 2 0 1 0;way b 0 18 1 0 2 0;");
        // POINTS 0, 0 need 324, so that each row will do
        dueHops(x, 0, 1, 0, 11, 22, 32);
        dueHops(x, 1, 0, 0, 11, 22, 23);
    }

    /** "Ahead of the other one's", where both can't. */
    private static void firstAheadOfOther() {
        // both at POINT 1 are 65 apart: by 17 either may go out and back first
        TwoLeash x = Checks.loaded("way a 8 8 4 8 8 8;way b 8 9 12 9 8 9;");
        Checks.dueFraction("SHORTEST", x, x.shortest(0, 1, 2), 17, 1);
        dueHops(x, 0, 1, 0, 10, 21, 22);
        dueHops(x, 1, 0, 0, 10, 21, 22);
        // the first one's hop would come to 20 at its POINT 2: so the other one goes first
        TwoLeash y = Checks.loaded("way a 8 9 12 9 8 10;way b 8 8 4 8 10 8;");
        Checks.dueFraction("SHORTEST", y, y.shortest(0, 1, 2), 17, 1);
        dueHops(y, 0, 1, 0, 1, 12, 22);
    }

    /** As many as the longer WAY has EDGES, or as both have less one and more. */
    private static void mostAndFewestHops() {
        TwoLeash x = Checks.loaded("way a" + TO_AND_FRO + "way b" + TO_AND_FRO + "way c 0 0 18 18;");
        dueHops(x, 0, 1, 0, 11, 22, 33, 44, 55, 66, 77);
        Checks.dueFine("a with c", x, x.hops(0, 2, NONE, false), 7);
        TwoLeash y = Checks.loaded("way a 0 0 1 0 0 0 1 0 0 0 1 0 0 0 10 0;way b 5 0 15 0 14 0 15 0 14 0 15 0 14 0 15 0;");
        dueHops(y, 0, 1, 0, 10, 20, 30, 40, 50, 60, 71, 72, 73, 74, 75, 76, 77);
    }

    private static void sums() {
        sumsOfTwoPoints();
        rowsOfTheLongestWays();
        leastSumOfSeveral();
    }

    /** "The SQUARES of both at the begin and behind each hop, together": of two POINTS each there are three rows. */
    private static void sumsOfTwoPoints() {
        TwoLeash x = Checks.loaded("way a 0 0 9 0;way b 0 3 9 4;");
        Checks.dueFine("9 and 16", x, x.sums(0, 1, 0), 25);
        Checks.dueFine("one row", x, x.sums(0, 1, 1), 1);
        Checks.dueFine("three rows", x, x.sums(0, 1, 2), 3);
    }

    /** "1,000,000,000, if more": of 8 POINTS each there are 48,639 rows, the most there can be. */
    private static void rowsOfTheLongestWays() {
        TwoLeash x = Checks.loaded("way a" + TO_AND_FRO + "way b" + FRO_AND_TO + "way c 0 0 18 18;");
        Checks.dueFine("all rows", x, x.sums(0, 1, 2), 48639);
        Checks.dueFine("all rows, turned about", x, x.sums(1, 0, 2), 48639);
        Checks.dueFine("rows with a way of two", x, x.sums(0, 2, 2), 15);
        // one walker hops ahead, both go on together, and at the end the other one comes: 648 twice
        Checks.dueFine("least SUM", x, x.sums(0, 1, 0), 1296);
        Checks.dueFine("a first, or b first", x, x.sums(0, 1, 1), 2);
    }

    /** "How many rows have it." */
    private static void leastSumOfSeveral() {
        TwoLeash x = Checks.loaded("way a 0 0 1 0 2 0;way b 1 0 2 0 3 0;");
        // 1 at the begin, a hops ahead alone, both go on by 0, b hops behind: 1 at the end
        Checks.dueFine("1 and 1", x, x.sums(0, 1, 0), 2);
        Checks.dueFine("one row", x, x.sums(0, 1, 1), 1);
        TwoLeash y = Checks.loaded("way a 0 0 0 4 0 0;way b 4 0 4 4 4 0;");
        Checks.dueFine("three of 16", y, y.sums(0, 1, 0), 48);
        Checks.dueFine("one row", y, y.sums(0, 1, 1), 1);
        TwoLeash z = Checks.loaded("way a 0 0 2 0;way b 1 0 1 1 1 0;");
        // 1, 2, 1 over either POINT of a
        Checks.dueFine("1, 2 and 1", z, z.sums(0, 1, 0), 4);
        Checks.dueFine("two rows", z, z.sums(0, 1, 1), 2);
    }

    // ---- promise 26

    private static void reach() {
        reachOfNone();
        reachOfTheFirstCell();
        reachOfAll();
        greatestEdgesOfUnlikeCells();
    }

    /** "0, 0, if both first POINTS are near enough", "5 of 1, 2: none". */
    private static void reachOfNone() {
        TwoLeash x = Checks.loaded("way a 0 0 9 0 9 9;way b 0 3 9 0 9 9;");
        Checks.dueFine("none", x, x.reach(0, 1, 8999, 1000, 0), 0);
        Checks.dueRefused("none of a", x, x.reach(0, 1, 8999, 1000, 1), 5);
        Checks.dueRefused("none of b", x, x.reach(0, 1, 8999, 1000, 2), 5);
        Checks.due("just near enough", x.reach(0, 1, 9, 1, 0) > 0, true);
    }

    /** CELL 0, 0 alone: EDGE 0 of both. */
    private static void reachOfTheFirstCell() {
        TwoLeash x = Checks.loaded("way a 0 0 9 0 9 9;way b 0 1 0 9 9 9;");
        Checks.dueFine("one", x, x.reach(0, 1, 1, 1, 0), 1);
        Checks.dueFine("of a", x, x.reach(0, 1, 1, 1, 1), 0);
        Checks.dueFine("of b", x, x.reach(0, 1, 1, 1, 2), 0);
    }

    /** All CELLS of the longest WAYS. */
    private static void reachOfAll() {
        TwoLeash x = Checks.loaded("way a" + TO_AND_FRO + "way b" + FRO_AND_TO + "way c 0 0 9 9;");
        Checks.dueFine("49", x, x.reach(0, 1, 648, 1, 0), 49);
        Checks.dueFine("of a", x, x.reach(0, 1, 648, 1, 1), 6);
        Checks.dueFine("of b", x, x.reach(0, 1, 648, 1, 2), 6);
        Checks.dueFine("7", x, x.reach(0, 2, 648, 1, 0), 7);
        Checks.dueFine("of c", x, x.reach(0, 2, 648, 1, 2), 0);
        Checks.dueFine("none by 647", x, x.reach(0, 1, 647, 1, 0), 0);
    }

    /** "The greatest EDGE of such a CELL": of a and of b by CELLS that are not the same one. */
    private static void greatestEdgesOfUnlikeCells() {
        // a stays near POINT 0 of b up to its EDGE 2, b near POINT 0 of a up to its EDGE 1; both can't go
        TwoLeash x = Checks.loaded("way a 9 9 5 9 5 8 0 0;way b 9 9 9 13 18 18;");
        Checks.dueFine("0 0, 1 0, 2 0 and 0 1", x, x.reach(0, 1, 25, 1, 0), 4);
        Checks.dueFine("of a", x, x.reach(0, 1, 25, 1, 1), 2);
        Checks.dueFine("of b", x, x.reach(0, 1, 25, 1, 2), 1);
        Checks.dueFine("turned about", x, x.reach(1, 0, 25, 1, 1), 1);
        Checks.dueFine("turned about", x, x.reach(1, 0, 25, 1, 2), 2);
    }
}
