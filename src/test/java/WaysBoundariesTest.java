/**
 * New objects, FRACTIONS, WAYS, more ways and ACTS (promises 1 to 4, 8 to 15, 27 to 42): each sentence that names
 * a boundary has a test of its own. What is refused, and in which order, stands in StatusTest.
 */
public final class WaysBoundariesTest {
    private static final int NONE = TwoLeash.NONE;
    private static final int HIGHEST = Integer.MAX_VALUE;
    private static final String CORNERS = " 0 0 18 18 0 0 18 18 0 0 18 18 0 0 18 18;";

    private WaysBoundariesTest() {
    }

    public static void main(String[] args) {
        newObjects();
        fractions();
        ways();
        squares();
        meets();
        bends();
        pieces();
        rings();
        thinned();
        kinMiddleGroups();
        withoutAndTurned();
        printAndOut();
        movesAndAdds();
        dropsAndTurns();
        undo();
        Checks.end();
    }

    // ---- promises 1 to 4

    private static void newObjects() {
        newObjectHasNoWays();
        newObjectsAreApart();
        statusIsOfTheLatestCall();
    }

    /** "No WAYS; STATUS 0", "0 by 1 at first", OUT "none at first". */
    private static void newObjectHasNoWays() {
        TwoLeash x = new TwoLeash();
        Checks.due("status", x.status(), 0);
        Checks.due("top", x.top(), 0);
        Checks.due("bottom", x.bottom(), 1);
        Checks.dueFine("ways", x, x.many(0), 0);
        Checks.dueFine("points", x, x.many(1), 0);
        Checks.dueFine("acts", x, x.many(2), 0);
        Checks.dueRefused("OUT", x, x.out(0), 5);
        Checks.due("an empty tape", x.feed(0, 0, 0, 0, 0), 20);
    }

    /** What is done with one object is not seen in another one. */
    private static void newObjectsAreApart() {
        TwoLeash x = Checks.loaded("way a 0 0 4 4;way b 4 0 0 4;");
        TwoLeash y = new TwoLeash();
        x.shortest(0, 1, 0);
        x.print();
        x.turn(0);
        x.many(9);
        Checks.due("status", y.status(), 0);
        Checks.due("top", y.top(), 0);
        Checks.due("ways", y.many(0), 0);
        Checks.due("acts", y.many(2), 0);
        Checks.dueRefused("OUT", y, y.out(0), 5);
    }

    /** "STATUS of the latest call that has one": a fine one takes a refusal away, and the other way round. */
    private static void statusIsOfTheLatestCall() {
        TwoLeash x = new TwoLeash();
        x.many(3);
        Checks.due("refused", x.status(), 1);
        Checks.due("told again", x.status(), 1);
        x.many(0);
        Checks.due("fine", x.status(), 0);
        x.undo();
        Checks.due("refused anew", x.status(), 5);
        x.load(0);
        Checks.due("fine anew", x.status(), 0);
    }

    private static void fractions() {
        fractionsHaveNoCommonDivisor();
        zeroIsByOne();
        fractionStaysTillTheNext();
        fractionsOfCallsThatGiveANumber();
    }

    /** "Without a common divisor." */
    private static void fractionsHaveNoCommonDivisor() {
        TwoLeash x = Checks.loaded("way a 0 0 4 2;way b 1 3 2 1 3 0;way c 0 0 6 6;way d 1 2 5 2;");
        // crosses of 10, 0 and 6 over squares of 20
        Checks.dueFraction("100 by 20", x, x.near(1, 0, 0, 0), 5, 1);
        Checks.dueFraction("0 by 20", x, x.near(1, 1, 0, 0), 0, 1);
        Checks.dueFraction("36 by 20", x, x.near(1, 2, 0, 0), 9, 5);
        // a cross of 6 over a square of 72
        Checks.dueFraction("36 by 72", x, x.near(3, 0, 2, 0), 1, 2);
        TwoLeash y = Checks.loaded("way a 0 0 3 1;way b 1 1 2 1;");
        Checks.dueFraction("4 by 10", y, y.near(1, 0, 0, 0), 2, 5);
        Checks.dueFraction("1 by 10", y, y.near(1, 1, 0, 0), 1, 10);
    }

    /** "0 is 0 by 1." */
    private static void zeroIsByOne() {
        TwoLeash x = Checks.loaded("way a 0 0 6 6;way b 2 2 4 4;");
        Checks.dueFraction("on the edge", x, x.near(1, 0, 0, 0), 0, 1);
        Checks.dueFine("nearest", x, x.nearest(1, 1, 0), 0);
        Checks.due("top", x.top(), 0);
        Checks.due("bottom", x.bottom(), 1);
        Checks.dueFraction("critical", x, x.critical(0, 1, 0), 0, 1);
    }

    /** "Till the next one": refused calls and calls that tell no FRACTION leave it. */
    private static void fractionStaysTillTheNext() {
        TwoLeash x = Checks.loaded("way a 0 0 6 6;way b 1 2 4 4;way r 0 0 3 0 0 0;");
        Checks.dueFraction("told", x, x.near(1, 0, 0, 0), 1, 2);
        x.near(1, 2, 0, 0);
        x.shortest(0, 0, 0);
        x.critical(0, 1, HIGHEST);
        x.ring(0, 1);
        x.without(0, 0, 1);
        x.kin(0);
        x.middle();
        x.piece(0, 1, 0);
        x.criticals(0, 1, 0);
        x.enough(0, 1, 0, 9, 1);
        x.thinned(2, 9, 1, 0);
        x.hops(0, 1, 0, false);
        x.groups(NONE, 9, 1);
        x.turn(0);
        x.undo();
        Checks.load(x, "way z 0 0 1 1;");
        Checks.load(x, "way");
        x.load(0);
        Checks.due("top", x.top(), 1);
        Checks.due("bottom", x.bottom(), 2);
    }

    /** Calls that give a number and tell a FRACTION "(its STATUS tells)". */
    private static void fractionsOfCallsThatGiveANumber() {
        TwoLeash x = Checks.loaded("way a 0 0 6 6;way b 1 2 1 4;way r 0 0 3 0 0 0;");
        Checks.dueFine("nearest", x, x.nearest(1, 0, 0), 0);
        Checks.due("top", x.top(), 1);
        Checks.due("bottom", x.bottom(), 2);
        Checks.dueFine("farthest", x, x.farthest(1, 0), 1);
        Checks.due("top", x.top(), 9);
        Checks.due("bottom", x.bottom(), 2);
        Checks.dueFine("ring", x, x.ring(0, 2), 1);
        Checks.due("top", x.top(), 45);
        Checks.due("bottom", x.bottom(), 1);
    }

    // ---- promises 8 to 11

    private static void ways() {
        manyOfAFullObject();
        manyActsThatCanBeUndone();
        squaresOfEdgesTogether();
        greatestEdgeOfSeveral();
        everyPointOfAFullWay();
    }

    /** At most 4 WAYS of at most 8 POINTS. */
    private static void manyOfAFullObject() {
        TwoLeash x = Checks.loaded("way a" + CORNERS + "way b" + CORNERS + "way c" + CORNERS + "way d" + CORNERS);
        Checks.dueFine("ways", x, x.many(0), 4);
        Checks.dueFine("points", x, x.many(1), 32);
        Checks.dueFine("acts", x, x.many(2), 0);
    }

    /** "ACTS that can be undone": those that were refused or are undone don't count, nor does undo() itself. */
    private static void manyActsThatCanBeUndone() {
        TwoLeash x = Checks.loaded("way a 0 0 6 6 9 0;way b 1 2 4 4;");
        x.turn(0);
        x.turn(2);
        x.drop(1, 0);
        Checks.dueFine("one", x, x.many(2), 1);
        x.move(0, 0, 18, 18);
        x.add(1, 0, 0, 0);
        x.drop(0, 1);
        Checks.dueFine("four", x, x.many(2), 4);
        x.undo();
        Checks.dueFine("three", x, x.many(2), 3);
        x.undo();
        x.undo();
        x.undo();
        x.undo();
        Checks.dueFine("none", x, x.many(2), 0);
    }

    /** "SQUARES of its EDGES together": the least and the greatest there can be. */
    private static void squaresOfEdgesTogether() {
        TwoLeash x = Checks.loaded("way a" + CORNERS + "way b 3 3 3 4;");
        Checks.dueFine("seven of 648", x, x.way(0, 1), 4536);
        Checks.dueFine("one of 1", x, x.way(1, 1), 1);
    }

    /** "The EDGE with the greatest SQUARE, of several the first." */
    private static void greatestEdgeOfSeveral() {
        TwoLeash x = Checks.loaded("way a" + CORNERS + "way b 0 0 1 0 4 4 9 4 9 0;way c 0 0 1 0 3 0 6 0;way d 5 5 6 6;");
        Checks.dueFine("all alike", x, x.way(0, 2), 0);
        Checks.dueFine("two of 25", x, x.way(1, 2), 1);
        Checks.dueFine("the last", x, x.way(2, 2), 2);
        Checks.dueFine("the only one", x, x.way(3, 2), 0);
    }

    /** "10 and i: x of POINT i, 20 and i: y (i 0 to 7)." */
    private static void everyPointOfAFullWay() {
        TwoLeash x = Checks.loaded("way a 1 18 2 17 3 16 4 15 5 14 6 13 7 12 8 11;way b 0 0 1 0 2 0 3 0 4 0 5 0 6 0;");
        for (int i = 0; i < 8; i++) {
            Checks.dueFine("x " + i, x, x.way(0, 10 + i), i + 1);
            Checks.dueFine("y " + i, x, x.way(0, 20 + i), 18 - i);
        }
        Checks.dueFine("x 6 of seven", x, x.way(1, 16), 6);
        Checks.dueRefused("no x 7 of seven", x, x.way(1, 17), 2);
        Checks.dueRefused("no y 7 of seven", x, x.way(1, 27), 2);
    }

    private static void squares() {
        squareOfTheSameWay();
        nearWithinAndBesideAnEdge();
        nearOfTheSameWay();
        nearestOfSeveral();
        farthestOfSeveral();
    }

    /** "POINT k of another one, or the same": 0 and 648 are the least and the greatest. */
    private static void squareOfTheSameWay() {
        TwoLeash x = Checks.loaded("way a 0 0 18 18 3 4;way b 18 18 0 0;");
        Checks.dueFine("a point and itself", x, x.square(0, 2, 0, 2), 0);
        Checks.dueFine("of one way", x, x.square(0, 0, 0, 2), 25);
        Checks.dueFine("points alike", x, x.square(0, 0, 1, 1), 0);
        Checks.dueFine("corners", x, x.square(0, 1, 1, 1), 648);
        Checks.dueFine("corners the other way", x, x.square(1, 0, 0, 0), 648);
    }

    /** "The least SQUARE to an EDGE": a foot ahead of it, just at its ends, between them, behind it. */
    private static void nearWithinAndBesideAnEdge() {
        TwoLeash x = Checks.loaded("way a 2 0 6 0;way b 0 3 2 3 3 3 6 3 8 3;way c 0 0 4 2;way d 0 1 2 1 5 1 3 4;");
        int[] due = {13, 9, 9, 9, 13};
        for (int i = 0; i < 5; i++) {
            Checks.dueFraction("point " + i, x, x.near(1, i, 0, 0), due[i], 1);
        }
        Checks.dueFraction("a foot of 2 of 20", x, x.near(3, 0, 2, 0), 4, 5);
        Checks.dueFraction("on the edge", x, x.near(3, 1, 2, 0), 0, 1);
        Checks.dueFraction("a foot behind the end", x, x.near(3, 2, 2, 0), 2, 1);
        Checks.dueFraction("a foot just at the end", x, x.near(3, 3, 2, 0), 5, 1);
    }

    /** "EDGE k of another one, or the same." */
    private static void nearOfTheSameWay() {
        TwoLeash x = Checks.loaded("way a 0 0 4 0 4 4;");
        Checks.dueFraction("an end of its edge", x, x.near(0, 0, 0, 0), 0, 1);
        Checks.dueFraction("the other end", x, x.near(0, 1, 0, 0), 0, 1);
        Checks.dueFraction("its other edge", x, x.near(0, 0, 0, 1), 16, 1);
    }

    /** "The EDGE to which POINT i is nearest, of several the first", whatever their fractions are written by. */
    private static void nearestOfSeveral() {
        TwoLeash x = Checks.loaded("way a 2 1 9 9;way b 0 0 2 2 3 1 2 0;way c 2 0 3 1 2 2 0 0;way d 5 9 9 9 9 5;");
        Checks.dueFine("4 by 8 ahead of 1 by 2", x, x.nearest(0, 0, 1), 0);
        Checks.due("top", x.top(), 1);
        Checks.due("bottom", x.bottom(), 2);
        Checks.dueFine("1 by 2 ahead of 4 by 8", x, x.nearest(0, 0, 2), 0);
        Checks.dueFine("the corner of two", x, x.nearest(0, 1, 3), 0);
        Checks.dueFine("the last one alone", x, x.nearest(3, 0, 2), 1);
        Checks.due("top", x.top(), 58);
    }

    /** "The POINT whose least SQUARE is the greatest, of several the first." */
    private static void farthestOfSeveral() {
        TwoLeash x = Checks.loaded("way a 0 2 4 1 8 2 9 2;way b 0 0 18 0;way c 1 0 3 0;way d 5 0 5 3 6 3;");
        Checks.dueFine("three of 4", x, x.farthest(0, 1), 0);
        Checks.due("top", x.top(), 4);
        Checks.dueFine("all of 0", x, x.farthest(2, 1), 0);
        Checks.due("top", x.top(), 0);
        Checks.due("bottom", x.bottom(), 1);
        Checks.dueFine("the second of two", x, x.farthest(3, 1), 1);
        Checks.due("top", x.top(), 9);
    }

    // ---- promises 14 and 15

    private static void meets() {
        placesInCommonAtEnds();
        placesInCommonOnOneLine();
        placesInCommonAnyWayRound();
        crossingNeedsBothSidesOfBoth();
        oneWayTwiceWithoutNeighbours();
        mostMeetings();
    }

    /** "Have a place in common": an end is one. */
    private static void placesInCommonAtEnds() {
        TwoLeash x = Checks.loaded("way a 0 0 4 0;way b 4 0 6 3;way c 2 0 2 5;way d 5 1 5 0;");
        Checks.dueFine("end to end", x, x.meets(0, 1, 0), 1);
        Checks.dueFine("an end on the other", x, x.meets(0, 2, 0), 1);
        Checks.dueFine("the other on an end", x, x.meets(2, 0, 0), 1);
        Checks.dueFine("just beside the end", x, x.meets(0, 3, 0), 0);
    }

    /** On one line: overlapping, one within the other, end to end, apart. */
    private static void placesInCommonOnOneLine() {
        TwoLeash x = Checks.loaded("way a 2 2 6 6;way b 4 4 9 9;way c 6 6 7 7;way d 7 7 8 8;");
        Checks.dueFine("overlapping", x, x.meets(0, 1, 0), 1);
        Checks.dueFine("one within the other", x, x.meets(1, 2, 0), 1);
        Checks.dueFine("the other within the one", x, x.meets(3, 1, 0), 1);
        Checks.dueFine("end to end", x, x.meets(0, 2, 0), 1);
        Checks.dueFine("apart", x, x.meets(0, 3, 0), 0);
        Checks.dueFine("none of them crosses", x, x.meets(0, 1, 1) + x.meets(1, 2, 1) + x.meets(0, 2, 1), 0);
        TwoLeash y = Checks.loaded("way a 1 1 5 1;way b 5 1 1 1;way c 1 2 5 2;way d 7 1 9 1;");
        Checks.dueFine("the same edge turned", y, y.meets(0, 1, 0), 1);
        Checks.dueFine("beside it", y, y.meets(0, 2, 0), 0);
        Checks.dueFine("apart on a flat line", y, y.meets(0, 3, 0), 0);
    }

    /** An EDGE in each direction; another one ends ahead of it, at both its ends, within it, behind it. */
    private static void placesInCommonAnyWayRound() {
        int[][] along = {{1, 0}, {-1, 0}, {0, 1}, {0, -1}, {1, 1}, {1, -1}, {-1, 1}, {-1, -1}};
        for (int[] v : along) {
            for (int at = -1; at <= 3; at++) {
                int x = 9 + at * v[0];
                int y = 9 + at * v[1];
                String aside = " " + (x - 3 * v[1]) + " " + (y + 3 * v[0]);
                String onward = " " + (x + (at > 0 ? 4 : -4) * v[0]) + " " + (y + (at > 0 ? 4 : -4) * v[1]);
                String edge = "way a 9 9 " + (9 + 2 * v[0]) + " " + (9 + 2 * v[1]) + ";";
                dueMeeting(edge + "way b " + x + " " + y + aside + ";", at >= 0 && at <= 2);
                dueMeeting(edge + "way b " + x + " " + y + onward + ";", at >= 0 && at <= 2);
            }
        }
    }

    private static void dueMeeting(String text, boolean due) {
        TwoLeash x = Checks.loaded(text);
        for (int turns = 0; turns < 4; turns++) {
            Checks.dueFine("meeting of " + text, x, x.meets(0, 1, 0), due ? 1 : 0);
            Checks.dueFine("turned about, of " + text, x, x.meets(1, 0, 0), due ? 1 : 0);
            Checks.dueFine("no crossing of " + text, x, x.meets(0, 1, 1) + x.meets(1, 0, 1), 0);
            x.turn(turns % 2);
        }
    }

    /** "Cross: the ends of each lie on both sides of the other one": an end on the other one is no crossing. */
    private static void crossingNeedsBothSidesOfBoth() {
        TwoLeash x = Checks.loaded("way a 0 4 8 4;way b 4 0 4 8;way c 4 4 4 8;way d 9 0 9 8;");
        Checks.dueFine("crossing", x, x.meets(0, 1, 1), 1);
        Checks.dueFine("crossing, turned about", x, x.meets(1, 0, 1), 1);
        Checks.dueFine("beginning on it", x, x.meets(0, 2, 1), 0);
        Checks.dueFine("beginning on it, turned about", x, x.meets(2, 0, 1), 0);
        x.turn(2);
        Checks.dueFine("ending on it", x, x.meets(0, 2, 1), 0);
        Checks.dueFine("ending on it, turned about", x, x.meets(2, 0, 1), 0);
        Checks.dueFine("both sides of one alone", x, x.meets(0, 3, 1), 0);
        Checks.dueFine("both sides of one alone, turned about", x, x.meets(3, 0, 1), 0);
        TwoLeash y = Checks.loaded("way a 0 0 8 0;way b 2 5 4 0 6 5;");
        Checks.dueFine("a corner on it meets twice", y, y.meets(0, 1, 0), 2);
        Checks.dueFine("and does not cross", y, y.meets(0, 1, 1), 0);
    }

    /** "Of one WAY twice: of two EDGES that are not neighbours, each couple once." */
    private static void oneWayTwiceWithoutNeighbours() {
        TwoLeash x = Checks.loaded("way a 0 0 4 0;way b 0 0 4 0 1 0;way c 0 0 4 0 4 4 2 0;way d 0 0 4 0 4 2 2 2 2 1;");
        Checks.dueFine("one edge", x, x.meets(0, 0, 0), 0);
        Checks.dueFine("two edges, one upon the other", x, x.meets(1, 1, 0), 0);
        Checks.dueFine("the third touches the first", x, x.meets(2, 2, 0), 1);
        Checks.dueFine("and does not cross it", x, x.meets(2, 2, 1), 0);
        Checks.dueFine("none touches another", x, x.meets(3, 3, 0), 0);
        TwoLeash y = Checks.loaded("way a 0 0 6 6 6 0 0 6;way r 0 0 4 0 0 4 0 0;");
        Checks.dueFine("one couple crosses, once", y, y.meets(0, 0, 1), 1);
        Checks.dueFine("one couple meets, once", y, y.meets(0, 0, 0), 1);
        Checks.dueFine("first and last of a ring", y, y.meets(1, 1, 0), 1);
    }

    /** All couples of the longest WAYS. */
    private static void mostMeetings() {
        String across = " 0 1 18 2 0 3 18 4 0 5 18 6 0 7 18 8;";
        String along = " 2 0 3 18 4 0 5 18 6 0 7 18 8 0 9 18;";
        TwoLeash x = Checks.loaded("way a" + across + "way b" + along + "way c" + CORNERS);
        Checks.dueFine("seven by seven cross", x, x.meets(0, 1, 1), 49);
        Checks.dueFine("seven by seven meet", x, x.meets(0, 1, 0), 49);
        Checks.dueFine("one upon the other: 21 couples but 6", x, x.meets(2, 2, 0), 15);
    }

    private static void bends() {
        bendsBetweenFirstAndLast();
        straightOnAndStraightBack();
        bendsInEachDirection();
    }

    /** "At how many POINTS between the first and the last": none of two, one of three, six of eight. */
    private static void bendsBetweenFirstAndLast() {
        TwoLeash x = Checks.loaded("way a 0 0 1 0;way b 0 0 1 0 1 1;way c 0 0 1 0 1 1 0 1 0 2 1 2 1 3 0 3;way r 0 0 4 0 0 4 0 0;");
        for (int what = 0; what < 4; what++) {
            Checks.dueFine("of two", x, x.bends(0, what), 0);
            Checks.dueFine("of three", x, x.bends(1, what), what == 0 ? 1 : 0);
        }
        Checks.dueFine("left of eight", x, x.bends(2, 0), 4);
        Checks.dueFine("right of eight", x, x.bends(2, 1), 2);
        Checks.dueFine("of a ring not where it closes", x, x.bends(3, 0), 2);
    }

    /** "Goes straight on (2), straight back (3)", along any line, by any lengths; "y grows up". */
    private static void straightOnAndStraightBack() {
        TwoLeash x = Checks.loaded("way a 0 0 2 4 3 6 4 8;way b 0 0 4 2 2 1 8 4;way c 5 5 5 0 5 9;way d 0 0 4 4 9 8;");
        Checks.dueFine("on", x, x.bends(0, 2), 2);
        Checks.dueFine("not back", x, x.bends(0, 3), 0);
        Checks.dueFine("back and back again", x, x.bends(1, 3), 2);
        Checks.dueFine("not on", x, x.bends(1, 2), 0);
        Checks.dueFine("back by more", x, x.bends(2, 3), 1);
        Checks.dueFine("a little right", x, x.bends(3, 1), 1);
        Checks.dueFine("is not straight", x, x.bends(3, 2), 0);
        x.move(3, 2, 8, 9);
        Checks.dueFine("a little left", x, x.bends(3, 0), 1);
    }

    /** A step in each direction, and behind it one on, back, to the left, to the right, by one and by two. */
    private static void bendsInEachDirection() {
        int[][] along = {{1, 0}, {-1, 0}, {0, 1}, {0, -1}, {1, 1}, {1, -1}, {-1, 1}, {-1, -1}};
        for (int[] v : along) {
            int[][] next = {{-v[1], v[0]}, {v[1], -v[0]}, {v[0], v[1]}, {-v[0], -v[1]}};
            for (int what = 0; what < 4; what++) {
                for (int by = 1; by <= 2; by++) {
                    int x = 9 + v[0] + by * next[what][0];
                    int y = 9 + v[1] + by * next[what][1];
                    String text = "way a 9 9 " + (9 + v[0]) + " " + (9 + v[1]) + " " + x + " " + y + ";";
                    TwoLeash z = Checks.loaded(text);
                    for (int other = 0; other < 4; other++) {
                        Checks.dueFine("bends " + other + " of " + text, z, z.bends(0, other), other == what ? 1 : 0);
                    }
                }
            }
        }
    }

    // ---- promises 27 to 29

    private static void pieces() {
        pieceOfTwoPoints();
        firstPieceByIThenK();
        pieceWithinTheOtherWay();
    }

    /** "PIECE: its POINTS i to k (i below k)": of two POINTS there is but one. */
    private static void pieceOfTwoPoints() {
        TwoLeash x = Checks.loaded("way a 0 0 9 0 0 0;way b 9 9 0 9;");
        Checks.dueFraction("its SHORTEST, asked first", x, x.pieces(0, 1), 162, 1);
        Checks.dueFine("i", x, x.piece(0, 1, 0), 0);
        Checks.dueFine("k", x, x.piece(0, 1, 1), 1);
        Checks.dueFraction("its SHORTEST", x, x.pieces(0, 1), 162, 1);
    }

    /** "Of several the first by i, then k." */
    private static void firstPieceByIThenK() {
        TwoLeash x = Checks.loaded("way a 0 0 9 0;way b 0 3 9 0 9 3;way c 9 9 0 3 9 0 0 3 9 0;");
        // both 0 to 1 and 0 to 2 need 9
        Checks.dueFine("i of b", x, x.piece(0, 1, 0), 0);
        Checks.dueFine("k of b", x, x.piece(0, 1, 1), 1);
        Checks.dueFraction("of b", x, x.pieces(0, 1), 9, 1);
        // both 1 to 2 and 3 to 4 need 9
        Checks.dueFine("i of c", x, x.piece(0, 2, 0), 1);
        Checks.dueFine("k of c", x, x.piece(0, 2, 1), 2);
        Checks.dueFraction("of c", x, x.pieces(0, 2), 9, 1);
    }

    /** The last two POINTS, the whole; the first WAY is taken "as a whole". */
    private static void pieceWithinTheOtherWay() {
        TwoLeash x = Checks.loaded("way a 0 0 9 0;way b 9 9 5 5 9 9 0 9 5 5 0 9 0 1 9 1;way c 0 0 4 4 9 0;");
        Checks.dueFine("i", x, x.piece(0, 1, 0), 6);
        Checks.dueFine("k", x, x.piece(0, 1, 1), 7);
        Checks.dueFraction("its SHORTEST", x, x.pieces(0, 1), 1, 1);
        Checks.dueFine("the whole of c", x, x.piece(0, 2, 1), 2);
        Checks.dueFraction("the whole of c", x, x.pieces(0, 2), 16, 1);
    }

    private static void rings() {
        ringOfThreePoints();
        ringOfEightPoints();
        firstOfSeveralBegins();
        noRing();
    }

    /** The shortest RING: there and back. */
    private static void ringOfThreePoints() {
        TwoLeash x = Checks.loaded("way a 5 0 0 0 5 0;way r 0 0 5 0 0 0;");
        Checks.dueFine("begin", x, x.ring(0, 1), 1);
        Checks.due("top", x.top(), 0);
        Checks.due("bottom", x.bottom(), 1);
        Checks.duePrinted("nothing is turned", x, "way a 5 0 0 0 5 0;way r 0 0 5 0 0 0;");
    }

    /** "At each of its POINTS (but the last one)": the one ahead of the last is the last that can be. */
    private static void ringOfEightPoints() {
        String round = "0 0 6 0 12 0 18 6 18 18 6 18 0 9 0 0;";
        TwoLeash x = Checks.loaded("way a 0 9 0 0 6 0 12 0 18 6 18 18 6 18 0 9;way r " + round + "way b " + round);
        Checks.dueFine("begin", x, x.ring(0, 1), 6);
        Checks.due("top", x.top(), 0);
        Checks.dueFine("as it is", x, x.ring(2, 1), 0);
        Checks.due("top", x.top(), 0);
    }

    /** "Of several the first", not the last POINT, which is the first one again. */
    private static void firstOfSeveralBegins() {
        TwoLeash x = Checks.loaded("way a 1 0 1 5;way r 0 0 2 0 0 0 2 0 0 0;way b 1 0 2 0;");
        Checks.dueFine("four as good", x, x.ring(0, 1), 0);
        Checks.due("top", x.top(), 26);
        Checks.dueFine("two as good", x, x.ring(2, 1), 1);
    }

    /** "5: it is no RING": alike are both coordinates. */
    private static void noRing() {
        TwoLeash x = Checks.loaded("way a 0 0 9 0;way b 3 4 9 9 3 5;way c 3 4 9 9 4 4;");
        Checks.dueRefused("x alone", x, x.ring(0, 1), 5);
        Checks.dueRefused("y alone", x, x.ring(0, 2), 5);
        x.move(1, 2, 3, 4);
        Checks.dueFine("both", x, x.ring(0, 1), 0);
    }

    // ---- promise 30

    private static void thinned() {
        thinnedWayOfTwoPoints();
        thinnedToTheEnds();
        thinnedJustAtTheLeash();
        leastAsBits();
        noTwoNeighboursAlike();
        fewestAheadOfLeast();
    }

    /** "The first and the last among them." */
    private static void thinnedWayOfTwoPoints() {
        TwoLeash x = Checks.loaded("way a 0 0 9 0;");
        Checks.dueFine("by nothing", x, x.thinned(0, 0, 1, 0), 2);
        Checks.dueFine("by the greatest leash", x, x.thinned(0, 100000, 1, 1), 3);
    }

    /** "As few as can be": of eight both ends alone, or all. */
    private static void thinnedToTheEnds() {
        TwoLeash x = Checks.loaded("way a 0 0 1 0 2 0 5 0 7 0 8 0 9 0 18 0;way b 0 0 1 1 2 0 3 1 4 0 5 1 6 0 7 1;");
        Checks.dueFine("a straight way by 0", x, x.thinned(0, 0, 1000, 0), 2);
        Checks.dueFine("its ends", x, x.thinned(0, 0, 1000, 1), 129);
        Checks.dueFine("a bent way by 0", x, x.thinned(1, 0, 1, 0), 8);
        Checks.dueFine("all of it", x, x.thinned(1, 0, 1, 1), 255);
        Checks.dueFine("by the greatest leash", x, x.thinned(1, 100000, 1, 1), 129);
    }

    /** The leash that is just ENOUGH, and one that is a little less. */
    private static void thinnedJustAtTheLeash() {
        TwoLeash x = Checks.loaded("way a 0 0 3 4 8 0;way b 0 0 6 0 2 0 9 0;");
        Checks.dueFine("16", x, x.thinned(0, 16, 1, 1), 5);
        Checks.dueFine("not quite", x, x.thinned(0, 15999, 1000, 1), 7);
        Checks.dueFine("back by 4: 2 each", x, x.thinned(1, 4, 1, 1), 9);
        Checks.dueFine("not quite", x, x.thinned(1, 3999, 1000, 1), 15);
    }

    /** "Of several the least as bits." */
    private static void leastAsBits() {
        TwoLeash x = Checks.loaded("way a 0 0 4 1 8 0 12 1 16 0;");
        // POINT 1, 2 or 3 between the ends would do by 1 by 2; 19, 21 and 25 as bits
        Checks.dueFine("three", x, x.thinned(0, 1, 2, 0), 3);
        Checks.dueFine("the least", x, x.thinned(0, 1, 2, 1), 19);
    }

    /** "So that no two neighbours of them are alike." */
    private static void noTwoNeighboursAlike() {
        TwoLeash x = Checks.loaded("way a 4 4 5 5 4 4;way b 0 0 5 0 0 0 5 0 0 0;");
        Checks.dueFine("a ring keeps three", x, x.thinned(0, 100000, 1, 0), 3);
        Checks.dueFine("all of them", x, x.thinned(0, 100000, 1, 1), 7);
        Checks.dueFine("0, 1 and 4", x, x.thinned(1, 100000, 1, 1), 19);
    }

    /** As few as can be goes ahead of the least as bits. */
    private static void fewestAheadOfLeast() {
        TwoLeash x = Checks.loaded("way a 0 0 2 0 4 0 6 0 9 9;");
        Checks.dueFine("POINT 3 alone, 25, not 1 and 3", x, x.thinned(0, 0, 1, 1), 25);
    }

    // ---- promises 31 to 33

    private static void kinMiddleGroups() {
        kinOfSeveral();
        middleOfSeveral();
        groupsByOthers();
        groupsJustAtTheLeash();
    }

    /** "The other one with the least SHORTEST, of several the first." */
    private static void kinOfSeveral() {
        TwoLeash x = Checks.loaded("way a 0 5 9 5;way b 0 2 9 2;way c 0 8 9 8;way d 0 8 9 8;");
        Checks.dueFine("b, c and d are as near", x, x.kin(0), 1);
        Checks.dueFine("a alone", x, x.kin(1), 0);
        Checks.dueFine("d is like c", x, x.kin(2), 3);
        Checks.dueFine("c is like d", x, x.kin(3), 2);
        TwoLeash y = Checks.loaded("way a 0 0 1 0;way b 18 18 17 18;");
        Checks.dueFine("the only other one", y, y.kin(0), 1);
        Checks.dueFine("the only other one", y, y.kin(1), 0);
    }

    /** "Whose greatest SHORTEST with others is the least, of several the first"; "fewer than two WAYS". */
    private static void middleOfSeveral() {
        TwoLeash x = Checks.loaded("way a 0 0 9 0;way b 0 2 9 2;way c 0 4 9 4;way d 0 6 9 6;");
        Checks.dueFine("b and c", x, x.middle(), 1);
        TwoLeash y = Checks.loaded("way a 0 0 9 0;way b 0 2 9 2;");
        Checks.dueFine("both of two", y, y.middle(), 0);
        TwoLeash z = Checks.loaded("way a 0 0 9 0;way b 0 9 9 9;way c 0 5 9 5;");
        Checks.dueFine("the last", z, z.middle(), 2);
        TwoLeash u = Checks.loaded("way a 0 0 9 0;way b 0 0 9 0;way c 0 0 9 0;");
        Checks.dueFine("all alike", u, u.middle(), 0);
        // the last is 1 by 2 from both others, which are 1 from one another
        TwoLeash w = Checks.loaded("way a 0 0 1 0 1 1;way b 0 0 0 1 1 1;way c 0 0 1 1;");
        Checks.dueFine("below 1", w, w.middle(), 2);
        TwoLeash v = Checks.loaded("way a 0 0 9 0;");
        Checks.dueRefused("one", v, v.middle(), 5);
        v.load(0);
        Checks.dueRefused("none", v, v.middle(), 5);
    }

    /** "By others, too (itself, too), as bits." */
    private static void groupsByOthers() {
        TwoLeash x = Checks.loaded("way a 0 0 9 0;way b 0 9 9 9;way c 0 3 9 3;way d 0 6 9 6;");
        int[] sets = {15, 15, 15, 15};
        for (int way = 0; way < 4; way++) {
            Checks.dueFine("a, c, d, b in a row", x, x.groups(way, 9, 1), sets[way]);
            Checks.dueFine("each one itself", x, x.groups(way, 0, 1), 1 << way);
        }
        Checks.dueFine("one group", x, x.groups(NONE, 9, 1), 1);
        Checks.dueFine("four groups", x, x.groups(NONE, 0, 1), 4);
        x.move(3, 0, 0, 7);
        Checks.dueFine("b and d", x, x.groups(1, 9, 1), 10);
        Checks.dueFine("d and b", x, x.groups(3, 9, 1), 10);
        Checks.dueFine("a and c", x, x.groups(2, 9, 1), 5);
        Checks.dueFine("two groups", x, x.groups(NONE, 9, 1), 2);
    }

    /** A leash that is just ENOUGH, and one that is a little less. */
    private static void groupsJustAtTheLeash() {
        TwoLeash x = Checks.loaded("way a 0 0 9 0;way b 0 3 9 3;");
        Checks.dueFine("just", x, x.groups(NONE, 9000, 1000), 1);
        Checks.dueFine("not quite", x, x.groups(NONE, 8999, 1000), 2);
        Checks.dueFine("not quite", x, x.groups(1, 8999, 1000), 2);
        Checks.dueFine("the greatest leash", x, x.groups(0, 100000, 1), 3);
    }

    // ---- promises 34 and 35

    private static void withoutAndTurned() {
        withoutOneOfThree();
        withoutNeighboursAlike();
        withoutLeavesTheWay();
        turnedWays();
    }

    /** "5: it has two POINTS alone": of three each can go. */
    private static void withoutOneOfThree() {
        TwoLeash x = Checks.loaded("way a 0 0 0 4 3 0;way b 0 0 3 0;");
        Checks.dueFraction("the first", x, x.without(0, 0, 1), 16, 1);
        Checks.dueFraction("the one between", x, x.without(0, 1, 1), 0, 1);
        Checks.dueFraction("the last", x, x.without(0, 2, 1), 25, 1);
        Checks.dueRefused("of two none", x, x.without(1, 0, 0), 5);
        Checks.dueRefused("of two none", x, x.without(1, 1, 0), 5);
    }

    /** "Or the neighbours of the POINT are alike": both coordinates, and both neighbours must be there. */
    private static void withoutNeighboursAlike() {
        TwoLeash x = Checks.loaded("way a 1 1 5 5 1 1 5 1 1 2;way b 0 0 9 9;");
        Checks.dueRefused("alike", x, x.without(0, 1, 1), 5);
        Checks.due("one coordinate alone, y", x.without(0, 2, 1), true);
        Checks.due("one coordinate alone, x", x.without(0, 3, 1), true);
        Checks.due("the first has one neighbour", x.without(0, 0, 1), true);
        Checks.due("the last has one neighbour", x.without(0, 4, 1), true);
        TwoLeash r = Checks.loaded("way a 1 1 5 5 1 1;way b 0 0 9 9;");
        Checks.due("a ring's first", r.without(0, 0, 1), true);
        Checks.due("a ring's last", r.without(0, 2, 1), true);
    }

    /** "If POINT i was not there": it is there all the same. */
    private static void withoutLeavesTheWay() {
        String text = "way a 0 0 0 4 3 0;way b 0 0 3 0;";
        TwoLeash x = Checks.loaded(text);
        x.without(0, 1, 1);
        x.turned(0, 1, 0);
        Checks.dueFine("no acts", x, x.many(2), 0);
        Checks.duePrinted("as they are", x, text);
    }

    /** "If the other WAY was gone the other way round": the other one, not the first. */
    private static void turnedWays() {
        TwoLeash x = Checks.loaded("way a 0 0 9 0;way b 0 0 9 0;way c 0 0 0 4 9 4;");
        Checks.dueFraction("a way like the first", x, x.turned(0, 1, 0), 81, 1);
        for (int kind = 0; kind < 3; kind++) {
            Checks.dueFraction("c turned", x, x.turned(0, 2, kind), 97, 1);
        }
        x.turn(1);
        for (int kind = 0; kind < 3; kind++) {
            Checks.dueFraction("turned back", x, x.turned(0, 1, kind), 0, 1);
        }
    }

    // ---- promises 36 and 37

    private static void printAndOut() {
        printOfNoWays();
        printOfTheLongestText();
        outIsOfTheLatestPrint();
        outAtItsEnds();
    }

    /** No WAYS: a TEXT of no bytes, by which load() gives none. */
    private static void printOfNoWays() {
        TwoLeash x = new TwoLeash();
        Checks.dueFine("print", x, x.print(), 0);
        Checks.dueRefused("no byte", x, x.out(0), 5);
        Checks.dueFine("load", x, x.load(0), 0);
    }

    /** "OUT is a TEXT by which load() gives all WAYS as they are (NAMES, too)": the longest and the shortest one. */
    private static void printOfTheLongestText() {
        StringBuilder longest = new StringBuilder();
        for (char name = 'w'; name <= 'z'; name++) {
            longest.append("way ").append("abcdefg").append(name);
            longest.append(" 10 18 11 17 12 16 13 15 14 14 15 13 16 12 17 11;");
        }
        TwoLeash x = Checks.loaded(longest.toString());
        Checks.dueFine("bytes", x, x.print(), 244);
        Checks.duePrinted("the longest", x, longest.toString());
        TwoLeash y = Checks.loaded(Checks.printed(x));
        Checks.duePrinted("loaded again", y, longest.toString());
        TwoLeash z = Checks.loaded("way  z 00 09 01 00\n ;");
        Checks.duePrinted("no needless digits and blanks", z, "way z 0 9 1 0;");
        TwoLeash u = Checks.loaded("way a 0 0 9 9;way b 9 10 10 9;");
        Checks.duePrinted("9 and 10", u, "way a 0 0 9 9;way b 9 10 10 9;");
    }

    /** "Bytes told by the latest print()": neither load() nor ACTS change them. */
    private static void outIsOfTheLatestPrint() {
        TwoLeash x = Checks.loaded("way abc 0 0 1 1;");
        Checks.dueRefused("none at first", x, x.out(0), 5);
        x.print();
        x.turn(0);
        Checks.load(x, "way b 5 5 6 6;");
        Checks.dueFine("of the old text", x, x.out(6), 'c');
        Checks.dueFine("its length", x, x.out(15), ';');
        x.print();
        Checks.dueFine("of the new text", x, x.out(6), '5');
        Checks.dueRefused("its length", x, x.out(14), 5);
        x.load(0);
        x.print();
        Checks.dueRefused("empty again", x, x.out(0), 5);
    }

    /** "1: below 0; 5". */
    private static void outAtItsEnds() {
        TwoLeash x = Checks.loaded("way a 0 0 1 1;");
        x.print();
        Checks.dueFine("the first", x, x.out(0), 'w');
        Checks.dueFine("the last", x, x.out(13), ';');
        Checks.dueRefused("behind it", x, x.out(14), 5);
        Checks.dueRefused("ahead of it", x, x.out(-1), 1);
    }

    // ---- promises 38 to 41

    private static void movesAndAdds() {
        moveByTheLeastAndTheMost();
        moveLikeANeighbour();
        addAtBothEnds();
        addLikeANeighbour();
        addUpToEight();
    }

    /** "Elsewhere (0 to 18 each): the SQUARE by which." */
    private static void moveByTheLeastAndTheMost() {
        TwoLeash x = Checks.loaded("way a 0 0 9 9 5 0;");
        Checks.dueFine("corner to corner", x, x.move(0, 0, 18, 18), 648);
        Checks.dueFine("and back", x, x.move(0, 0, 0, 0), 648);
        Checks.dueFine("by one", x, x.move(0, 0, 0, 1), 1);
        Checks.dueFine("the last point", x, x.move(0, 2, 18, 0), 169);
        Checks.duePrinted("moved", x, "way a 0 1 9 9 18 0;");
    }

    /** "4: it is there, or would be like a neighbour": the one ahead, the one behind, no other one. */
    private static void moveLikeANeighbour() {
        TwoLeash x = Checks.loaded("way a 1 1 2 2 3 3 4 4;");
        Checks.dueRefused("it is there", x, x.move(0, 1, 2, 2), 4);
        Checks.dueRefused("like the one ahead", x, x.move(0, 1, 1, 1), 4);
        Checks.dueRefused("like the one behind", x, x.move(0, 1, 3, 3), 4);
        Checks.dueFine("like one farther on", x, x.move(0, 1, 4, 4), 8);
        Checks.dueFine("x of a neighbour alone", x, x.move(0, 1, 3, 4), 1);
        Checks.dueFine("the first like the last: a ring", x, x.move(0, 0, 4, 4), 18);
        Checks.dueFine("the last elsewhere", x, x.move(0, 3, 3, 4), 1);
        Checks.duePrinted("moved", x, "way a 4 4 3 4 3 3 3 4;");
    }

    /** "Ahead of POINT i (i POINTS: behind all)." */
    private static void addAtBothEnds() {
        TwoLeash x = Checks.loaded("way a 1 1 2 2;");
        Checks.dueFine("ahead of all", x, x.add(0, 0, 0, 0), 3);
        Checks.dueFine("behind all", x, x.add(0, 3, 18, 18), 4);
        Checks.dueFine("ahead of the last", x, x.add(0, 3, 18, 0), 5);
        Checks.duePrinted("added", x, "way a 0 0 1 1 2 2 18 0 18 18;");
        Checks.dueRefused("behind what is behind all", x, x.add(0, 6, 5, 5), 2);
    }

    /** "4: it would be like a neighbour." */
    private static void addLikeANeighbour() {
        TwoLeash x = Checks.loaded("way a 1 1 2 2 3 3;");
        Checks.dueRefused("like the one ahead", x, x.add(0, 1, 1, 1), 4);
        Checks.dueRefused("like the one behind", x, x.add(0, 1, 2, 2), 4);
        Checks.dueRefused("like the first", x, x.add(0, 0, 1, 1), 4);
        Checks.dueRefused("like the last", x, x.add(0, 3, 3, 3), 4);
        Checks.dueFine("like one farther on", x, x.add(0, 1, 3, 3), 4);
        Checks.dueFine("the first again: a ring", x, x.add(0, 4, 1, 1), 5);
        Checks.duePrinted("added", x, "way a 1 1 3 3 2 2 3 3 1 1;");
    }

    /** "3: there are 8." */
    private static void addUpToEight() {
        TwoLeash x = Checks.loaded("way a 1 1 2 2;way b 0 0 9 9;");
        for (int points = 3; points <= 8; points++) {
            Checks.dueFine("add", x, x.add(0, points - 1, points, points), points);
        }
        for (int i = 0; i <= 8; i++) {
            Checks.dueRefused("one too many", x, x.add(0, i, 18, 0), 3);
        }
        Checks.dueRefused("no POINT 9 to be ahead of", x, x.add(0, 9, 18, 0), 2);
        Checks.dueFine("the other way has room", x, x.add(1, 2, 18, 0), 3);
        x.drop(0, 7);
        Checks.dueFine("room again", x, x.add(0, 7, 18, 0), 8);
    }

    private static void dropsAndTurns() {
        dropDownToTwo();
        dropBetweenPointsAlike();
        turnTwice();
    }

    /** "5: there are two alone." */
    private static void dropDownToTwo() {
        TwoLeash x = Checks.loaded("way a 0 0 1 0 2 0 3 0 4 0 5 0 6 0 7 0;");
        for (int left = 7; left >= 2; left--) {
            Checks.dueFine("drop", x, x.drop(0, left % 2 == 0 ? 0 : left), left);
        }
        Checks.duePrinted("two", x, "way a 3 0 4 0;");
        Checks.dueRefused("the first of two", x, x.drop(0, 0), 5);
        Checks.dueRefused("the last of two", x, x.drop(0, 1), 5);
    }

    /** "4: its neighbours are alike": both coordinates; an end has but one neighbour. */
    private static void dropBetweenPointsAlike() {
        TwoLeash x = Checks.loaded("way a 1 1 5 5 1 1;way b 1 1 5 5 1 2;way c 1 1 5 5 2 1;");
        Checks.dueRefused("alike", x, x.drop(0, 1), 4);
        Checks.dueFine("x alone", x, x.drop(1, 1), 2);
        Checks.dueFine("y alone", x, x.drop(2, 1), 2);
        Checks.dueFine("the end of a ring", x, x.drop(0, 2), 2);
        Checks.duePrinted("dropped", x, "way a 1 1 5 5;way b 1 1 1 2;way c 1 1 2 1;");
    }

    /** Turned twice a WAY is as it was, and both are ACTS, of a WAY that reads the same from behind, too. */
    private static void turnTwice() {
        TwoLeash x = Checks.loaded("way a 0 0 1 0 2 0 3 0 4 0 5 0 6 0 7 0;way r 1 1 2 2 1 1;");
        Checks.dueFine("turn", x, x.turn(0), 8);
        Checks.duePrinted("turned", x, "way a 7 0 6 0 5 0 4 0 3 0 2 0 1 0 0 0;way r 1 1 2 2 1 1;");
        Checks.dueFine("turn", x, x.turn(0), 8);
        Checks.dueFine("the same from behind", x, x.turn(1), 3);
        Checks.duePrinted("as it was", x, "way a 0 0 1 0 2 0 3 0 4 0 5 0 6 0 7 0;way r 1 1 2 2 1 1;");
        Checks.dueFine("acts", x, x.many(2), 3);
    }

    // ---- promise 42

    private static void undo() {
        undoOfEachAct();
        tenAreKept();
        actsBehindUndo();
        loadForgetsActs();
    }

    /** "The latest one not undone yet goes back": each kind, of several WAYS, at both ends. */
    private static void undoOfEachAct() {
        String text = "way a 0 0 1 0 2 0 3 0 4 0 5 0 6 0 7 0;way b 1 1 2 2;";
        TwoLeash x = Checks.loaded(text);
        x.drop(0, 0);
        x.drop(0, 6);
        x.add(1, 0, 0, 0);
        x.add(1, 3, 9, 9);
        x.turn(1);
        x.move(0, 5, 18, 18);
        x.move(1, 0, 0, 9);
        Checks.duePrinted("seven acts", x, "way a 1 0 2 0 3 0 4 0 5 0 18 18;way b 0 9 2 2 1 1 0 0;");
        for (int left = 6; left >= 0; left--) {
            Checks.dueFine("undo", x, x.undo(), left);
        }
        Checks.duePrinted("as at first", x, text);
        Checks.dueRefused("no more", x, x.undo(), 5);
    }

    /** "10 are kept": of eleven the first one stays, over and over. */
    private static void tenAreKept() {
        TwoLeash x = Checks.loaded("way a 0 0 1 18;");
        for (int round = 0; round < 3; round++) {
            int from = x.way(0, 10);
            for (int act = 1; act <= 11; act++) {
                x.move(0, 0, (from + act) % 19, 0);
                Checks.dueFine("kept", x, x.many(2), Math.min(act, 10));
            }
            for (int left = 9; left >= 0; left--) {
                Checks.dueFine("undo", x, x.undo(), left);
            }
            Checks.dueRefused("ten alone", x, x.undo(), 5);
            Checks.dueFine("the first act stays", x, x.way(0, 10), (from + 1) % 19);
        }
    }

    /** An ACT behind an undo() is the latest one then; what is undone doesn't come again. */
    private static void actsBehindUndo() {
        TwoLeash x = Checks.loaded("way a 0 0 9 9;");
        for (int act = 1; act <= 10; act++) {
            x.move(0, 0, act, 0);
        }
        x.undo();
        x.undo();
        x.move(0, 0, 18, 0);
        Checks.dueFine("kept", x, x.many(2), 9);
        Checks.dueFine("undo the new one", x, x.undo(), 8);
        Checks.dueFine("where the eighth left it", x, x.way(0, 10), 8);
        Checks.dueFine("undo the eighth", x, x.undo(), 7);
        Checks.dueFine("where the seventh left it", x, x.way(0, 10), 7);
    }

    /** "load() forgets them": one with STATUS 0, of no WAYS, too; those with 1 and 9 leave them. */
    private static void loadForgetsActs() {
        TwoLeash x = Checks.loaded("way a 0 0 9 9;");
        x.turn(0);
        x.load(1);
        Checks.dueFine("STATUS 1", x, x.many(2), 1);
        Checks.load(x, "way b 1 1");
        Checks.dueFine("STATUS 9", x, x.many(2), 1);
        Checks.load(x, "way b 1 1 2 2;");
        Checks.dueFine("STATUS 0", x, x.many(2), 0);
        Checks.dueRefused("nothing to undo", x, x.undo(), 5);
        x.turn(0);
        x.load(0);
        Checks.dueFine("no ways", x, x.many(2), 0);
        Checks.dueRefused("nothing to undo", x, x.undo(), 5);
        for (int act = 0; act < 10; act++) {
            Checks.load(x, "way b 1 1 2 2;");
            x.turn(0);
            x.turn(0);
            x.turn(0);
            Checks.dueFine("three behind each load", x, x.many(2), 3);
        }
    }
}
