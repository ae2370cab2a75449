/** Each promise of the document: plain inputs, the edges that it names, wrong inputs. */
public final class PromisesTest {
    private static final int NONE = TwoLeash.NONE;
    private static final int LOWEST = Integer.MIN_VALUE;
    private static final int HIGHEST = Integer.MAX_VALUE;

    /** Two straight ways 3 apart, and a roof whose foot is the first one. */
    private static final String THREE = "way a 0 0 10 0;way b 0 3 10 3;way c 0 0 5 5 10 0;";
    /** b goes back in the middle: walkers who go on need more than those who may go back. */
    private static final String ZIGZAG = "way a 0 0 18 0;way b 0 0 12 0 6 0 18 0;";
    private static final String RING = "way line 4 0 4 4 0 4 0 0 4 0;way ring 0 0 4 0 4 4 0 4 0 0;";

    private PromisesTest() {
    }

    public static void main(String[] args) {
        newObject();
        statusTopBottom();
        feedAndTape();
        loadTexts();
        faultsOfEachKind();
        faultPlaces();
        manyAndWay();
        squareAndNear();
        nearestAndFarthest();
        meetsAndBends();
        freePlaces();
        lowPlaces();
        sidesCounted();
        enoughByKinds();
        shortestByKinds();
        criticalsInOrder();
        walkThroughCells();
        hopsAndSums();
        reachOfCells();
        piecesAndRings();
        thinnedWays();
        kinMiddleGroups();
        withoutAndTurned();
        printAndOut();
        moveAddDropTurn();
        undoOfActs();
        refusalsChangeNothing();
        Checks.end();
    }

    /** Promise 1. */
    private static void newObject() {
        TwoLeash x = new TwoLeash();
        Checks.due("new status", x.status(), 0);
        Checks.due("new top", x.top(), 0);
        Checks.due("new bottom", x.bottom(), 1);
        Checks.due("new fault 0", x.fault(0), NONE);
        Checks.due("new fault 1", x.fault(1), NONE);
        for (int what = 0; what < 3; what++) {
            Checks.dueFine("new many " + what, x, x.many(what), 0);
        }
        Checks.dueRefused("new out", x, x.out(0), 5);
        Checks.dueRefused("new undo", x, x.undo(), 5);
        Checks.dueRefused("new way", x, x.way(0, 0), 2);
        Checks.dueRefused("new middle", x, x.middle(), 5);
        Checks.dueRefused("new kin", x, x.kin(0), 2);
        Checks.dueFine("new groups", x, x.groups(NONE, 0, 1), 0);
        Checks.dueFine("new print", x, x.print(), 0);
        Checks.due("NONE", TwoLeash.NONE, -1);
    }

    /** Promises 2 to 4: STATUS of the latest call that has one; the FRACTION till the next one. */
    private static void statusTopBottom() {
        TwoLeash x = Checks.loaded(THREE);
        x.many(7);
        x.feed(0, 0, 0, 0, 0);
        x.fault(0);
        x.top();
        x.bottom();
        x.status();
        Checks.due("status is of many", x.status(), 1);
        Checks.dueFraction("near", x, x.near(0, 0, 2, 0), 0, 1);
        Checks.dueFraction("near over the edge", x, x.near(1, 0, 2, 0), 9, 2);
        x.near(0, 0, 2, 9);
        Checks.due("top stays", x.top(), 9);
        Checks.due("bottom stays", x.bottom(), 2);
        x.kin(0);
        x.middle();
        x.piece(0, 2, 0);
        x.criticals(0, 1, 0);
        x.enough(0, 1, 0, 9, 1);
        Checks.load(x, "way z 1 1 2 2;");
        Checks.due("top is still told", x.top(), 9);
        Checks.due("bottom is still told", x.bottom(), 2);
    }

    /** Promise 5. */
    private static void feedAndTape() {
        TwoLeash x = new TwoLeash();
        x.many(9);
        for (int fed = 1; fed <= 35; fed++) {
            Checks.due("feed " + fed, x.feed(0x20202020, 0x20202020, 0x20202020, 0x20202020, 0x20202020), 20 * fed);
        }
        Checks.due("feed beyond", x.feed(1, 2, 3, 4, 5), NONE);
        Checks.due("feed has no status", x.status(), 1);
        Checks.dueRefused("load above the tape", x, x.load(701), 1);
        Checks.dueFine("load of 700 blanks", x, x.load(700), 0);
        Checks.due("feed behind load", x.feed(0x77617920, 0x61203020, 0x30203120, 0x323b0000, 0), 20);
        Checks.dueFine("load of bytes in order", x, x.load(14), 1);
        Checks.due("x", x.way(0, 11), 1);
        Checks.due("y", x.way(0, 21), 2);
    }

    /** Promise 6. */
    private static void loadTexts() {
        TwoLeash x = new TwoLeash();
        x.feed(0x77617920, 0x61203020, 0x30203120, 0x323b2020, 0x20202020);
        Checks.dueRefused("load below 0", x, x.load(-1), 1);
        Checks.dueRefused("load lowest", x, x.load(LOWEST), 1);
        Checks.dueRefused("load 21", x, x.load(21), 1);
        Checks.due("no fault yet", x.fault(0), NONE);
        Checks.dueFine("the tape stayed", x, x.load(20), 1);
        Checks.dueRefused("the tape is empty", x, x.load(1), 1);
        Checks.due("fault of the load that counts", x.fault(0), 0);
        Checks.dueFine("load of nothing", x, x.load(0), 0);
        Checks.dueFine("no ways then", x, x.many(0), 0);

        Checks.dueFine("blanks, tokens side by side", x, Checks.load(x, "\n way\nab 0 1\n2 03;way abc18 18 0 0 ; \n"), 2);
        Checks.due("03", x.way(0, 21), 3);
        Checks.due("18", x.way(1, 10), 18);
        Checks.duePrinted("ways told", x, "way ab 0 1 2 3;way abc 18 18 0 0;");
        String full = "way abcdefgh 0 0 1 0 2 0 3 0 4 0 5 0 6 0 7 0;";
        String more = full + "way b 1 1 2 2;way c 1 1 2 2;way ways 1 1 2 2 1 1;";
        Checks.dueFine("four ways, eight points", x, Checks.load(x, more), 4);
        Checks.due("points of all", x.many(1), 15);

        x.move(1, 0, 5, 5);
        Checks.dueRefused("a fault", x, Checks.load(x, "way a 0 0 1 1"), 9);
        Checks.due("ways stay", x.many(0), 4);
        Checks.due("acts stay", x.many(2), 1);
        Checks.due("the point stays moved", x.way(1, 10), 5);
        Checks.dueRefused("the tape went all the same", x, x.load(1), 1);
        Checks.due("a load without a text tells no fault", x.fault(0), 2);
        x.print();
        Checks.dueFine("another text", x, Checks.load(x, THREE), 3);
        Checks.due("acts are forgotten", x.many(2), 0);
        Checks.dueRefused("nothing to undo", x, x.undo(), 5);
        Checks.due("OUT stays", x.out(4), 'a');
        Checks.due("of the old text", x.out(11), 'h');
    }

    private static void dueFault(String text, int kind, int place) {
        TwoLeash x = Checks.loaded(THREE);
        Checks.dueRefused("load of " + text, x, Checks.load(x, text), 9);
        Checks.due("fault of " + text, x.fault(0), kind);
        Checks.due("its place in " + text, x.fault(1), place);
        Checks.due("no such what", x.fault(2), NONE);
        Checks.due("no such what", x.fault(-1), NONE);
        Checks.due("fault has no status", x.status(), 9);
        Checks.duePrinted("what stays behind " + text, x, THREE);
        Checks.load(x, THREE);
        Checks.due("without a fault", x.fault(0), 0);
        Checks.due("without a place", x.fault(1), NONE);
        Checks.due("without, what else", x.fault(2), NONE);
    }

    /** Promise 7, and FAULTS under Terms. */
    private static void faultsOfEachKind() {
        dueFault("Way a 0 0 1 1;", 1, 0);
        dueFault("way a 0 0 1 1;\t", 1, 14);
        dueFault("way abcdefghi 0 0 1 1;", 1, 4);
        dueFault("way a 0 000 1 1;", 1, 8);
        dueFault("way a 0 -1 1 1;", 1, 8);
        dueFault("way a 0 0 1 1" + (char) 233 + ";", 1, 13);
        dueFault("way a 0 0 1 1;" + (char) 0, 1, 14);
        dueFault("a", 2, 0);
        dueFault("7", 2, 0);
        dueFault(";", 2, 0);
        dueFault("ways a 0 0 1 1;", 2, 0);
        dueFault("way way 0 0 1 1;", 2, 4);
        dueFault("way 1 0 0 1 1;", 2, 4);
        dueFault("way a ;", 2, 6);
        dueFault("way a 0 0;", 2, 9);
        dueFault("way a 0 0 1;", 2, 11);
        dueFault("way a 0 0 1 1 2;", 2, 15);
        dueFault("way a b 0 1 1;", 2, 6);
        dueFault("way a 0 b 1 1;", 2, 8);
        dueFault("way a 0 0 1 1 way", 2, 14);
        dueFault("way a 0 0 1 1;;", 2, 14);
        dueFault("way", 2, 3);
        dueFault("way a", 2, 5);
        dueFault("way a 0", 2, 7);
        dueFault("way a 0 0 1 1 \n ", 2, 16);
        dueFault("way a 19 0 1 1;", 3, 6);
        dueFault("way a 0 99 1 1;", 3, 8);
        dueFault("way a 0 0 1 1;way a 0 0 1 1;", 4, 18);
        dueFault("way a 0 0 1 1;way b 0 0 1 1; way c 0 0 1 1;way b ", 4, 47);
        dueFault("way a 0 0 0 0;", 6, 12);
        dueFault("way a 0 0 1 1 01 1;", 6, 17);
    }

    /** Promise 7: what is one too many, and which of several faults is told. */
    private static void faultPlaces() {
        String four = "way a 0 0 1 1;way b 0 0 1 1;way c 0 0 1 1;way d 0 0 1 1;";
        dueFault(four + "way e 0 0 1 1;", 5, 56);
        dueFault(four + "way a 0 0 1 1;", 5, 56);
        dueFault(four + "wax", 2, 56);
        dueFault("way a 0 0 1 1 0 0 1 1 0 0 1 1 0 0 1 1 5 5;", 5, 38);
        dueFault("way a 0 0 1 1 0 0 1 1 0 0 1 1 0 0 1 1 19 5;", 3, 38);
        dueFault("way a 0 0 1 1 0 0 1 1 0 0 1 1 0 0 1 1 b", 2, 38);
        dueFault("way a 0 0 1 1 0 0 1 1 0 0 1 1 0 0 1 1", 2, 37);
        dueFault("way a 0 0 20 0; A", 3, 10);
        dueFault("way a 0 0 0 0; way a A", 6, 12);
    }

    /** Promises 8 and 9. */
    private static void manyAndWay() {
        TwoLeash x = Checks.loaded("way a 1 2 4 6 9 6 9 11;way b 3 3 0 18;");
        Checks.dueFine("many ways", x, x.many(0), 2);
        Checks.dueFine("many points", x, x.many(1), 6);
        Checks.dueFine("many acts", x, x.many(2), 0);
        x.turn(0);
        x.turn(0);
        Checks.dueFine("many acts", x, x.many(2), 2);
        Checks.dueRefused("many -1", x, x.many(-1), 1);
        Checks.dueRefused("many 3", x, x.many(3), 1);

        Checks.dueFine("points", x, x.way(0, 0), 4);
        Checks.dueFine("squares of edges", x, x.way(0, 1), 75);
        Checks.dueFine("the first of the longest edges", x, x.way(0, 2), 0);
        Checks.dueFine("squares of edges", x, x.way(1, 1), 234);
        Checks.dueFine("x 0", x, x.way(0, 10), 1);
        Checks.dueFine("x 3", x, x.way(0, 13), 9);
        Checks.dueFine("y 0", x, x.way(0, 20), 2);
        Checks.dueFine("y 3", x, x.way(0, 23), 11);
        Checks.dueFine("y 1 of b", x, x.way(1, 21), 18);
        int[] bad = {-1, 3, 9, 18, 19, 28, 30, LOWEST, HIGHEST};
        for (int what : bad) {
            Checks.dueRefused("way what " + what, x, x.way(0, what), 1);
            Checks.dueRefused("way 7 what " + what, x, x.way(7, what), 1);
        }
        int[] none = {-1, 2, 4, LOWEST, HIGHEST};
        for (int way : none) {
            Checks.dueRefused("way " + way, x, x.way(way, 0), 2);
        }
        Checks.dueRefused("no point 4", x, x.way(0, 14), 2);
        Checks.dueRefused("no point 4", x, x.way(0, 24), 2);
        Checks.dueRefused("no point 7", x, x.way(1, 17), 2);
        Checks.dueRefused("no point 7", x, x.way(1, 27), 2);
        TwoLeash y = Checks.loaded("way a 0 0 1 0 1 2 3 2 3 3;");
        Checks.dueFine("the longest edge", y, y.way(0, 2), 1);
    }

    /** Promises 10 and 11. */
    private static void squareAndNear() {
        TwoLeash x = Checks.loaded("way a 0 0 6 3 6 10;way b 2 6 18 18;");
        Checks.dueFine("square", x, x.square(0, 1, 1, 0), 25);
        Checks.dueFine("square of the same way", x, x.square(0, 0, 0, 1), 45);
        Checks.dueFine("square of a point and itself", x, x.square(0, 0, 0, 0), 0);
        Checks.dueFine("the greatest square", x, x.square(1, 1, 0, 0), 648);
        Checks.dueRefused("no point", x, x.square(0, 3, 1, 0), 2);
        Checks.dueRefused("no point", x, x.square(0, -1, 1, 0), 2);
        Checks.dueRefused("no point", x, x.square(0, 0, 1, 2), 2);
        Checks.dueRefused("no point", x, x.square(0, 0, 1, -1), 2);
        Checks.dueRefused("no way", x, x.square(2, 0, 1, 0), 2);
        Checks.dueRefused("no way", x, x.square(0, 0, -1, 0), 2);

        Checks.dueFraction("near aside an edge", x, x.near(1, 0, 0, 0), 20, 1);
        Checks.dueFraction("near ahead of an edge", x, x.near(0, 0, 1, 0), 40, 1);
        Checks.dueFraction("near behind an edge", x, x.near(1, 1, 0, 0), 369, 1);
        Checks.dueFraction("near the way's own edge", x, x.near(0, 2, 0, 0), 49, 1);
        Checks.dueFraction("near its own edge's end", x, x.near(0, 1, 0, 0), 0, 1);
        Checks.dueFraction("near, not whole", x, x.near(0, 2, 1, 0), 16, 25);
        Checks.dueRefused("no edge", x, x.near(0, 0, 1, 1), 2);
        Checks.dueRefused("no edge", x, x.near(0, 0, 1, -1), 2);
        Checks.dueRefused("no point", x, x.near(0, 3, 1, 0), 2);
        Checks.dueRefused("no way", x, x.near(2, 0, 1, 0), 2);
        Checks.dueRefused("no way", x, x.near(0, 0, 2, 0), 2);
    }

    /** Promises 12 and 13. */
    private static void nearestAndFarthest() {
        TwoLeash x = Checks.loaded("way a 5 5 2 9 7 4;way b 0 0 10 0 10 10 0 10 0 0;");
        Checks.dueFine("nearest of four as near", x, x.nearest(0, 0, 1), 0);
        Checks.due("its square", x.top(), 25);
        Checks.dueFine("nearest above", x, x.nearest(0, 1, 1), 2);
        Checks.due("its square", x.top(), 1);
        Checks.dueFine("nearest at the right", x, x.nearest(0, 2, 1), 1);
        Checks.due("its square", x.top(), 9);
        Checks.due("by", x.bottom(), 1);
        Checks.dueFine("farthest", x, x.farthest(0, 1), 0);
        Checks.due("its square", x.top(), 25);
        Checks.dueFine("nearest of a corner", x, x.nearest(1, 0, 0), 0);
        Checks.due("top", x.top(), 50);
        Checks.dueFine("nearest of another corner", x, x.nearest(1, 2, 0), 1);
        Checks.due("top", x.top(), 81);
        Checks.due("bottom", x.bottom(), 2);
        Checks.dueFine("farthest, of several the first", x, x.farthest(1, 0), 0);
        Checks.due("top", x.top(), 50);
        Checks.due("bottom", x.bottom(), 1);
        TwoLeash y = Checks.loaded("way a 0 0 3 1 6 0 4 4;way b 0 3 6 1;");
        Checks.dueFine("farthest by fractions", y, y.farthest(0, 1), 0);
        Checks.due("top", y.top(), 81);
        Checks.due("bottom", y.bottom(), 10);
        long top = x.top();
        Checks.dueRefused("nearest to itself", x, x.nearest(0, 0, 0), 4);
        Checks.dueRefused("no point of itself", x, x.nearest(0, 3, 0), 2);
        Checks.dueRefused("no point", x, x.nearest(0, -1, 1), 2);
        Checks.dueRefused("no way", x, x.nearest(0, 0, 2), 2);
        Checks.dueRefused("no way", x, x.nearest(-1, 0, 1), 2);
        Checks.dueRefused("farthest from itself", x, x.farthest(1, 1), 4);
        Checks.dueRefused("no way twice", x, x.farthest(2, 2), 2);
        Checks.dueRefused("no way", x, x.farthest(0, -1), 2);
        Checks.due("the fraction stays", x.top(), top);
    }

    /** Promises 14 and 15. */
    private static void meetsAndBends() {
        TwoLeash x = Checks.loaded("way a 0 0 10 0;way b 5 5 5 0 8 3 8 9;way c 0 4 12 4;way d 2 0 4 0 12 0;");
        Checks.dueFine("touching counts as meeting", x, x.meets(0, 1, 0), 2);
        Checks.dueFine("touching is no crossing", x, x.meets(0, 1, 1), 0);
        Checks.dueFine("meeting", x, x.meets(1, 2, 0), 2);
        Checks.dueFine("crossing", x, x.meets(2, 1, 1), 2);
        Checks.dueFine("one upon the other", x, x.meets(0, 3, 0), 2);
        Checks.dueFine("one upon the other doesn't cross", x, x.meets(0, 3, 1), 0);
        Checks.dueFine("apart", x, x.meets(0, 2, 0), 0);
        Checks.dueFine("one way, neighbours don't count", x, x.meets(3, 3, 0), 0);
        Checks.dueRefused("meets what 2", x, x.meets(0, 1, 2), 1);
        Checks.dueRefused("meets what -1", x, x.meets(0, 9, -1), 1);
        Checks.dueRefused("no way", x, x.meets(0, 4, 0), 2);
        Checks.dueRefused("no way", x, x.meets(-1, 0, 0), 2);
        TwoLeash y = Checks.loaded("way a 0 0 8 8 8 0 0 8 0 4 8 4;way b 0 0 4 0 4 4 0 4 0 0;way e 0 0 2 2;way f 4 4 6 6;"
        );
        Checks.dueFine("one way crosses itself", y, y.meets(0, 0, 1), 3);
        Checks.dueFine("one way meets itself", y, y.meets(0, 0, 0), 4);
        Checks.dueFine("a ring meets itself where it begins", y, y.meets(1, 1, 0), 1);
        Checks.dueFine("and does not cross", y, y.meets(1, 1, 1), 0);
        Checks.dueFine("on one line, apart", y, y.meets(2, 3, 0), 0);
        Checks.dueFine("on one line, ahead", y, y.meets(3, 2, 0), 0);

        TwoLeash z = Checks.loaded("way a 0 0 4 0 4 4 4 8 8 8 8 4 8 10 9 9;way b 1 1 2 2;");
        Checks.dueFine("left", z, z.bends(0, 0), 1);
        Checks.dueFine("right", z, z.bends(0, 1), 3);
        Checks.dueFine("straight on", z, z.bends(0, 2), 1);
        Checks.dueFine("straight back", z, z.bends(0, 3), 1);
        Checks.dueFine("no point between", z, z.bends(1, 2), 0);
        Checks.dueRefused("bends what 4", z, z.bends(0, 4), 1);
        Checks.dueRefused("bends what -1", z, z.bends(5, -1), 1);
        Checks.dueRefused("no way", z, z.bends(2, 0), 2);
        Checks.dueRefused("no way", z, z.bends(-1, 0), 2);
    }

    /** Promise 16. */
    private static void freePlaces() {
        TwoLeash x = Checks.loaded("way a 0 0 10 0 10 10;way b 5 3 5 9;");
        Checks.dueFine("first of LOWER", x, x.free(0, 1, false, 0, 0, 13, 1, 0), 300);
        Checks.dueFine("last of LOWER", x, x.free(0, 1, false, 0, 0, 13, 1, 1), 700);
        Checks.dueFine("one place alone", x, x.free(0, 1, false, 0, 0, 9, 1, 0), 500);
        Checks.dueFine("one place alone", x, x.free(0, 1, false, 0, 0, 9, 1, 1), 500);
        Checks.dueFine("rounded down", x, x.free(0, 1, false, 0, 0, 10, 1, 0), 400);
        Checks.dueFine("rounded down", x, x.free(0, 1, false, 0, 0, 11, 1, 0), 358);
        Checks.dueFine("rounded down", x, x.free(0, 1, false, 0, 0, 11, 1, 1), 641);
        Checks.dueFine("cut at the start", x, x.free(0, 1, false, 0, 0, 34, 1, 0), 0);
        Checks.dueFine("cut at the end", x, x.free(0, 1, false, 0, 0, 100000, 1, 1), 1000);
        Checks.dueFine("not quite", x, x.free(0, 1, false, 0, 0, 33999, 1000, 1), 999);
        Checks.dueFine("LOWER above the last cell", x, x.free(0, 1, false, 1, 1, 25, 1, 0), 900);
        Checks.dueFine("LEFT at the right of the last cell", x, x.free(0, 1, true, 2, 0, 26, 1, 0), 1000);
        Checks.dueFine("LEFT", x, x.free(0, 1, true, 1, 0, 50, 1, 1), 333);
        Checks.dueFine("LEFT", x, x.free(0, 1, true, 1, 0, 50, 1, 0), 0);
        Checks.dueRefused("nowhere", x, x.free(0, 1, false, 0, 0, 8999, 1000, 0), 5);
        Checks.dueRefused("nowhere near its end", x, x.free(0, 1, true, 0, 0, 33, 1, 1), 5);
        Checks.dueRefused("what 2", x, x.free(0, 1, false, 0, 0, 13, 1, 2), 1);
        Checks.dueRefused("what -1", x, x.free(0, 1, false, 0, 0, 13, 1, -1), 1);
        Checks.dueRefused("n below 0", x, x.free(0, 1, false, 0, 0, -1, 1, 0), 1);
        Checks.dueRefused("n too great", x, x.free(0, 1, false, 0, 0, 100001, 1, 0), 1);
        Checks.dueRefused("d 0", x, x.free(9, 1, false, 0, 0, 1, 0, 0), 1);
        Checks.dueRefused("d too great", x, x.free(0, 1, false, 0, 0, 1, 1001, 0), 1);
        Checks.dueRefused("LOWER of no edge", x, x.free(0, 1, false, 2, 0, 13, 1, 0), 2);
        Checks.dueRefused("LOWER of no point", x, x.free(0, 1, false, 0, 2, 13, 1, 0), 2);
        Checks.dueRefused("LEFT of no point", x, x.free(0, 1, true, 3, 0, 13, 1, 0), 2);
        Checks.dueRefused("LEFT of no edge", x, x.free(0, 1, true, 0, 1, 13, 1, 0), 2);
        Checks.dueRefused("i below 0", x, x.free(0, 1, true, -1, 0, 13, 1, 0), 2);
        Checks.dueRefused("j below 0", x, x.free(0, 1, false, 0, -1, 13, 1, 0), 2);
        Checks.dueRefused("no way", x, x.free(0, 2, false, 0, 0, 13, 1, 0), 2);
        Checks.dueRefused("one way twice", x, x.free(0, 0, false, 1, 2, 13, 1, 0), 4);
        Checks.dueRefused("one way twice, no side", x, x.free(0, 0, false, 2, 2, 13, 1, 0), 2);
    }

    /** Promise 17. */
    private static void lowPlaces() {
        TwoLeash x = Checks.loaded(ZIGZAG);
        Checks.dueFine("LOWER at the rim", x, x.low(0, 1, false, 0, 0, 9, 1), 0);
        Checks.dueFine("LOWER where it is free first", x, x.low(0, 1, false, 0, 1, 9, 1), 500);
        Checks.dueFine("LOWER by the LOW below", x, x.low(0, 1, false, 0, 2, 9, 1), 500);
        Checks.dueRefused("behind the last place", x, x.low(0, 1, false, 0, 2, 8999, 1000), 5);
        Checks.dueFine("free there all the same", x, x.free(0, 1, false, 0, 2, 8999, 1000, 1), 499);
        Checks.dueFine("LEFT at the rim", x, x.low(0, 1, true, 0, 0, 9, 1), 0);
        Checks.dueRefused("LEFT at the rim, too far on", x, x.low(0, 1, true, 0, 1, 9, 1), 5);
        Checks.dueFine("LEFT at the rim, far enough", x, x.low(0, 1, true, 0, 2, 144, 1), 0);
        Checks.dueFine("the last LEFT", x, x.low(0, 1, true, 1, 2, 9, 1), 750);
        TwoLeash y = Checks.loaded("way b 0 0 12 0 6 0 18 0;way a 0 0 18 0;");
        Checks.dueFine("the other way about", y, y.low(0, 1, true, 2, 0, 9, 1), 500);
        Checks.dueFine("LOWER as a rim", y, y.low(0, 1, false, 2, 0, 144, 1), 0);
        Checks.dueRefused("LOWER as a rim, with a gap", y, y.low(0, 1, false, 2, 0, 143, 1), 5);
        TwoLeash z = Checks.loaded("way a 0 0 10 0;way b 0 1 10 0;");
        Checks.dueRefused("the first points are too far apart", z, z.low(0, 1, false, 0, 0, 1, 2), 5);
        Checks.dueRefused("so none is REACHED", z, z.low(0, 1, true, 1, 0, 1, 2), 5);
        Checks.dueFine("though it is FREE", z, z.free(0, 1, true, 1, 0, 1, 2, 1), 1000);
        Checks.dueRefused("n below 0", x, x.low(0, 1, false, 0, 0, -1, 1), 1);
        Checks.dueRefused("d 0", x, x.low(0, 7, false, 0, 0, 1, 0), 1);
        Checks.dueRefused("no side", x, x.low(0, 1, false, 1, 0, 9, 1), 2);
        Checks.dueRefused("no side", x, x.low(0, 1, true, 0, 3, 9, 1), 2);
        Checks.dueRefused("one way twice", x, x.low(1, 1, true, 0, 0, 9, 1), 4);
    }

    /** Promise 18. */
    private static void sidesCounted() {
        TwoLeash x = Checks.loaded(ZIGZAG);
        Checks.dueFine("FREE", x, x.sides(0, 1, 0, 1, 0), 6);
        Checks.dueFine("REACHED", x, x.sides(0, 1, 0, 1, 1), 3);
        Checks.dueFine("REACHED", x, x.sides(0, 1, 9, 1, 1), 6);
        Checks.dueFine("FREE as a whole", x, x.sides(0, 1, 323, 1, 2), 6);
        Checks.dueFine("FREE as a whole", x, x.sides(0, 1, 324, 1, 2), 10);
        Checks.dueFine("all FREE", x, x.sides(0, 1, 324, 1, 0), 10);
        Checks.dueFine("all REACHED", x, x.sides(1, 0, 324, 1, 1), 10);
        Checks.dueRefused("what 3", x, x.sides(0, 1, 9, 1, 3), 1);
        Checks.dueRefused("what -1", x, x.sides(0, 1, 9, 1, -1), 1);
        Checks.dueRefused("no leash", x, x.sides(0, 0, 9, 0, 0), 1);
        Checks.dueRefused("no leash", x, x.sides(0, 0, 100001, 1, 0), 1);
        Checks.dueRefused("no way", x, x.sides(0, 2, 9, 1, 0), 2);
        Checks.dueRefused("one way twice", x, x.sides(1, 1, 9, 1, 0), 4);
    }

    /** Promise 19. */
    private static void enoughByKinds() {
        TwoLeash x = Checks.loaded(ZIGZAG);
        Checks.dueFine("WALK", x, x.enough(0, 1, 0, 9, 1), 1);
        Checks.dueFine("WALK", x, x.enough(0, 1, 0, 8999, 1000), 0);
        Checks.dueFine("WALK, as another fraction", x, x.enough(1, 0, 0, 9000, 1000), 1);
        Checks.dueFine("WEAK", x, x.enough(0, 1, 1, 0, 1), 1);
        Checks.dueFine("HOPS", x, x.enough(0, 1, 2, 144, 1), 1);
        Checks.dueFine("HOPS", x, x.enough(0, 1, 2, 71999, 500), 0);
        Checks.dueFine("the greatest leash", x, x.enough(0, 1, 0, 100000, 1), 1);
        TwoLeash y = Checks.loaded("way a 0 0 9 0;way b 0 2 9 3;");
        Checks.dueFine("the last points count", y, y.enough(0, 1, 1, 8, 1), 0);
        Checks.dueFine("the last points count", y, y.enough(0, 1, 0, 8, 1), 0);
        Checks.dueFine("the first points count", y, y.enough(1, 0, 1, 9, 1), 1);
        TwoLeash z = Checks.loaded("way a 0 3 9 0;way b 0 0 9 1;");
        Checks.dueFine("the first points count", z, z.enough(0, 1, 1, 8, 1), 0);
        Checks.dueFine("the first points count", z, z.enough(0, 1, 0, 8, 1), 0);
        Checks.dueRefused("KIND 3", x, x.enough(0, 1, 3, 9, 1), 1);
        Checks.dueRefused("KIND -1", x, x.enough(0, 9, -1, 9, 1), 1);
        Checks.dueRefused("no leash", x, x.enough(0, 0, 0, -1, 1), 1);
        Checks.dueRefused("no leash", x, x.enough(0, 0, 0, 1, LOWEST), 1);
        Checks.dueRefused("no way", x, x.enough(2, 2, 0, 9, 1), 2);
        Checks.dueRefused("one way twice", x, x.enough(1, 1, 0, 9, 1), 4);
    }

    /** Promise 20. */
    private static void shortestByKinds() {
        TwoLeash x = Checks.loaded(ZIGZAG);
        Checks.dueFraction("WALK", x, x.shortest(0, 1, 0), 9, 1);
        Checks.dueFraction("WALK", x, x.shortest(1, 0, 0), 9, 1);
        Checks.dueFraction("WEAK", x, x.shortest(0, 1, 1), 0, 1);
        Checks.dueFraction("HOPS", x, x.shortest(0, 1, 2), 144, 1);
        Checks.dueRefused("KIND 3", x, x.shortest(0, 0, 3), 1);
        Checks.dueRefused("KIND -1", x, x.shortest(9, 0, -1), 1);
        Checks.dueRefused("no way", x, x.shortest(0, 2, 0), 2);
        Checks.dueRefused("one way twice", x, x.shortest(0, 0, 0), 4);
        Checks.due("the fraction stays", x.top(), 144);
        TwoLeash y = Checks.loaded("way a 0 0 3 7 11 2;way b 0 0 11 2;way c 17 0 5 3 11 8 4 1 12 16;");
        Checks.dueFraction("by a height", y, y.shortest(0, 1, 0), 5041, 125);
        Checks.dueFraction("by a height", y, y.shortest(0, 1, 1), 5041, 125);
    }

    /** Promises 21 and 22. */
    private static void criticalsInOrder() {
        TwoLeash x = Checks.loaded(ZIGZAG);
        // 0 for all heights; 9 between 12 and 6 halfway; others of two points with edges.
        int all = x.criticals(0, 1, NONE);
        long top = -1;
        long bottom = 1;
        for (int k = 0; k < all; k++) {
            Checks.due("critical " + k, x.critical(0, 1, k), true);
            Checks.due("rising", top * x.bottom() < x.top() * bottom, true);
            top = x.top();
            bottom = x.bottom();
        }
        Checks.dueRefused("not so many", x, x.critical(0, 1, all), 5);
        Checks.dueRefused("not so many", x, x.critical(0, 1, HIGHEST), 5);
        Checks.dueFraction("the least", x, x.critical(0, 1, 0), 0, 1);
        Checks.dueFine("below WALK", x, x.criticals(0, 1, 0), 1);
        Checks.dueFraction("SHORTEST is one of them", x, x.critical(0, 1, 1), 9, 1);
        Checks.dueFine("below WEAK", x, x.criticals(0, 1, 1), 0);
        Checks.dueRefused("no critical -1", x, x.critical(0, 0, -1), 1);
        Checks.dueRefused("no KIND 2 here", x, x.criticals(0, 0, 2), 1);
        Checks.dueRefused("no KIND -2", x, x.criticals(0, 9, -2), 1);
        Checks.dueRefused("no way", x, x.criticals(0, 2, NONE), 2);
        Checks.dueRefused("no way", x, x.critical(2, 2, 0), 2);
        Checks.dueRefused("one way twice", x, x.criticals(1, 1, 0), 4);
        Checks.dueRefused("one way twice", x, x.critical(1, 1, 0), 4);
        // 1, 2, 9, 10, 25, 26, 29 of points, ends and 361/13 aside; 949/36 and 250/9 as far from two.
        TwoLeash y = Checks.loaded("way a 0 0 6 0;way b 1 1 1 3 4 5;");
        Checks.dueFine("how many", y, y.criticals(0, 1, NONE), 10);
        Checks.dueFraction("as far from two", y, y.critical(0, 1, 6), 949, 36);
        Checks.dueFraction("aside", y, y.critical(0, 1, 7), 361, 13);
        Checks.dueFraction("as far from two", y, y.critical(0, 1, 8), 250, 9);
        Checks.dueFraction("the greatest", y, y.critical(1, 0, 9), 29, 1);
    }

    /** Promise 23. */
    private static void walkThroughCells() {
        TwoLeash x = Checks.loaded("way a 0 0 6 0 12 0 18 0;way b 0 1 6 1 12 1 18 1;way c 0 9 9 9;");
        Checks.dueFine("cells", x, x.walk(0, 1, 1, 1, NONE, false), 5);
        int[] first = {0, 0, 1, 1, 2};
        int[] other = {0, 1, 1, 2, 2};
        for (int k = 0; k < 5; k++) {
            Checks.dueFine("edge " + k, x, x.walk(0, 1, 1, 1, k, false), first[k]);
            Checks.dueFine("other edge " + k, x, x.walk(0, 1, 1, 1, k, true), other[k]);
        }
        Checks.dueRefused("not so many", x, x.walk(0, 1, 1, 1, 5, false), 5);
        Checks.dueRefused("not ENOUGH", x, x.walk(0, 1, 999, 1000, NONE, false), 5);
        Checks.dueRefused("not ENOUGH", x, x.walk(0, 1, 999, 1000, 0, true), 5);
        Checks.dueFine("along the rim over LEFT", x, x.walk(0, 2, 200, 1, NONE, true), 3);
        Checks.dueFine("along the rim over LEFT", x, x.walk(0, 2, 200, 1, 2, false), 2);
        Checks.dueFine("along the rim over LEFT", x, x.walk(0, 2, 200, 1, 2, true), 0);
        Checks.dueFine("along the rim over LOWER", x, x.walk(2, 0, 200, 1, 2, true), 2);
        Checks.dueRefused("k -2", x, x.walk(0, 0, 1, 1, -2, false), 1);
        Checks.dueRefused("no leash", x, x.walk(0, 9, 1, 0, 0, false), 1);
        Checks.dueRefused("no way", x, x.walk(0, 3, 1, 1, 0, false), 2);
        Checks.dueRefused("one way twice", x, x.walk(1, 1, 1, 1, 0, false), 4);
    }

    /** Promises 24 and 25. */
    private static void hopsAndSums() {
        TwoLeash x = Checks.loaded("way a 0 0 4 0 8 0;way b 0 1 1 1 4 1 8 1;way c 1 9 2 9;");
        Checks.dueFine("hops", x, x.hops(0, 1, NONE, false), 3);
        int[] first = {0, 0, 1, 2};
        int[] other = {0, 1, 2, 3};
        for (int k = 0; k < 4; k++) {
            Checks.dueFine("at " + k, x, x.hops(0, 1, k, false), first[k]);
            Checks.dueFine("other at " + k, x, x.hops(0, 1, k, true), other[k]);
            Checks.dueFine("turned about, at " + k, x, x.hops(1, 0, k, false), other[k]);
        }
        Checks.dueRefused("not so many", x, x.hops(0, 1, 4, false), 5);
        Checks.dueRefused("not so many", x, x.hops(0, 1, HIGHEST, true), 5);
        // With c each hop of both goes first as long as it serves.
        Checks.dueFine("both ahead", x, x.hops(0, 2, 1, true), 1);
        Checks.dueFine("both ahead", x, x.hops(0, 2, 1, false), 1);
        Checks.dueFine("hops", x, x.hops(0, 2, NONE, true), 2);
        TwoLeash y = Checks.loaded("way a 0 0 5 0 6 0;way b 0 0 1 5 1 6;");
        Checks.dueFine("hops are by their SHORTEST", y, y.hops(0, 1, NONE, false), 2);
        // Six hops of the first one's walker, one of both, six of the other one's.
        TwoLeash v = Checks.loaded("way a 0 0 1 0 0 0 1 0 0 0 1 0 0 0 10 0;way b 5 0 15 0 14 0 15 0 14 0 15 0 14 0 15 0;");
        Checks.dueFine("the most hops", v, v.hops(0, 1, NONE, false), 13);
        Checks.dueFine("behind six", v, v.hops(0, 1, 6, false), 6);
        Checks.dueFine("behind six", v, v.hops(0, 1, 6, true), 0);
        Checks.dueFine("behind seven", v, v.hops(0, 1, 7, true), 1);
        Checks.dueFine("behind thirteen", v, v.hops(0, 1, 13, true), 7);
        Checks.dueRefused("not so many", v, v.hops(0, 1, 14, true), 5);
        Checks.dueRefused("k -2", x, x.hops(0, 0, -2, false), 1);
        Checks.dueRefused("no way", x, x.hops(3, 0, 0, false), 2);
        Checks.dueRefused("one way twice", x, x.hops(0, 0, 0, false), 4);

        Checks.dueFine("least SUM", x, x.sums(0, 1, 0), 5);
        Checks.dueFine("rows with it", x, x.sums(0, 1, 1), 1);
        Checks.dueFine("all rows", x, x.sums(0, 1, 2), 25);
        TwoLeash z = Checks.loaded("way a 0 0 1 0;way b 1 0 2 0;");
        Checks.dueFine("least SUM", z, z.sums(0, 1, 0), 2);
        Checks.dueFine("rows with it", z, z.sums(0, 1, 1), 2);
        Checks.dueFine("all rows", z, z.sums(0, 1, 2), 3);
        String eight = " 0 0 1 0 0 0 1 0 0 0 1 0 0 0 1 0;";
        TwoLeash u = Checks.loaded("way a" + eight + "way b" + eight);
        Checks.dueFine("all rows of the longest ways", u, u.sums(0, 1, 2), 48639);
        Checks.dueFine("one of them keeps 0", u, u.sums(0, 1, 1), 1);
        Checks.dueFine("that is the least SUM", u, u.sums(0, 1, 0), 0);
        Checks.dueRefused("what 3", x, x.sums(0, 0, 3), 1);
        Checks.dueRefused("what -1", x, x.sums(0, 9, -1), 1);
        Checks.dueRefused("no way", x, x.sums(0, 3, 0), 2);
        Checks.dueRefused("one way twice", x, x.sums(2, 2, 0), 4);
    }

    /** Promise 26. */
    private static void reachOfCells() {
        TwoLeash x = Checks.loaded(ZIGZAG);
        Checks.dueFine("cells", x, x.reach(0, 1, 9, 1, 0), 3);
        Checks.dueFine("cells", x, x.reach(0, 1, 8, 1, 0), 2);
        Checks.dueFine("edge of the first", x, x.reach(0, 1, 8, 1, 1), 0);
        Checks.dueFine("edge of the other", x, x.reach(0, 1, 8, 1, 2), 1);
        Checks.dueFine("edge of the first", x, x.reach(1, 0, 8, 1, 1), 1);
        TwoLeash y = Checks.loaded("way a 0 0 9 0 9 9;way b 0 2 9 2;");
        Checks.dueFine("none", y, y.reach(0, 1, 3, 1, 0), 0);
        Checks.dueRefused("none, so no edge", y, y.reach(0, 1, 3, 1, 1), 5);
        Checks.dueRefused("none, so no edge", y, y.reach(0, 1, 3, 1, 2), 5);
        Checks.dueFine("both cells", y, y.reach(0, 1, 4, 1, 0), 2);
        Checks.dueRefused("what 3", x, x.reach(0, 0, 9, 1, 3), 1);
        Checks.dueRefused("what -1", x, x.reach(0, 0, 9, 1, -1), 1);
        Checks.dueRefused("no leash", x, x.reach(0, 9, 9, 1001, 0), 1);
        Checks.dueRefused("no way", x, x.reach(-1, 0, 9, 1, 0), 2);
        Checks.dueRefused("one way twice", x, x.reach(0, 0, 9, 1, 0), 4);
    }

    /** Promises 27 to 29. */
    private static void piecesAndRings() {
        TwoLeash x = Checks.loaded("way a 4 0 8 0;way b 0 9 4 1 8 1 12 9;way c 4 1 8 1 4 1 8 1;");
        Checks.dueFine("from", x, x.piece(0, 1, 0), 1);
        Checks.dueFine("to", x, x.piece(0, 1, 1), 2);
        Checks.dueFraction("its SHORTEST", x, x.pieces(0, 1), 1, 1);
        Checks.dueFine("the first of several", x, x.piece(0, 2, 0), 0);
        Checks.dueFine("the first of several", x, x.piece(0, 2, 1), 1);
        Checks.dueFine("the first way is whole", x, x.piece(1, 0, 1), 1);
        Checks.dueFraction("the first way is whole", x, x.pieces(1, 0), 97, 1);
        Checks.dueRefused("what 2", x, x.piece(0, 0, 2), 1);
        Checks.dueRefused("what -1", x, x.piece(0, 9, -1), 1);
        Checks.dueRefused("no way", x, x.piece(0, 3, 0), 2);
        Checks.dueRefused("one way twice", x, x.piece(0, 0, 0), 4);
        Checks.dueRefused("no way", x, x.pieces(3, 3), 2);
        Checks.dueRefused("one way twice", x, x.pieces(1, 1), 4);

        TwoLeash y = Checks.loaded(RING);
        Checks.dueFine("where it begins", y, y.ring(0, 1), 1);
        Checks.due("its SHORTEST", y.top(), 0);
        Checks.due("by", y.bottom(), 1);
        Checks.dueFine("the other one is a ring, too", y, y.ring(1, 0), 3);
        Checks.dueRefused("one way twice", y, y.ring(1, 1), 4);
        Checks.dueRefused("no way", y, y.ring(0, 2), 2);
        Checks.dueRefused("no ring", x, x.ring(0, 1), 5);
        TwoLeash z = Checks.loaded("way a 0 0 1 0;way b 2 0 0 0 2 0;");
        Checks.dueFine("the shortest ring", z, z.ring(0, 1), 1);
        Checks.due("its SHORTEST", z.top(), 1);
        TwoLeash u = Checks.loaded("way a 0 0 2 0;way b 2 0 0 0 2 0;");
        Checks.dueFine("the first of several", u, u.ring(0, 1), 0);
        Checks.due("its SHORTEST", u.top(), 4);
    }

    /** Promise 30. */
    private static void thinnedWays() {
        TwoLeash x = Checks.loaded("way a 0 0 4 1 8 0 12 1 16 0;way b 0 0 4 0 0 0 4 0;way c 0 0 5 5 0 0;");
        Checks.dueFine("as it is", x, x.thinned(0, 0, 1, 0), 5);
        Checks.dueFine("as it is", x, x.thinned(0, 0, 1, 1), 31);
        Checks.dueFine("far enough", x, x.thinned(0, 1, 1, 0), 2);
        Checks.dueFine("far enough", x, x.thinned(0, 1, 1, 1), 17);
        Checks.dueFine("between", x, x.thinned(0, 1, 2, 0), 3);
        Checks.dueFine("of several the least as bits", x, x.thinned(0, 1, 2, 1), 19);
        Checks.dueFine("a way that goes back", x, x.thinned(1, 0, 1, 1), 15);
        Checks.dueFine("a way that goes back", x, x.thinned(1, 4, 1, 1), 9);
        Checks.dueFine("no two neighbours alike", x, x.thinned(2, 100000, 1, 1), 7);
        Checks.dueRefused("what 2", x, x.thinned(9, 1, 1, 2), 1);
        Checks.dueRefused("what -1", x, x.thinned(0, 1, 1, -1), 1);
        Checks.dueRefused("no leash", x, x.thinned(9, 1, 0, 0), 1);
        Checks.dueRefused("no leash", x, x.thinned(0, -1, 1, 0), 1);
        Checks.dueRefused("no way", x, x.thinned(3, 1, 1, 0), 2);
        Checks.dueRefused("no way", x, x.thinned(-1, 1, 1, 0), 2);
    }

    /** Promises 31 to 33. */
    private static void kinMiddleGroups() {
        TwoLeash x = Checks.loaded("way a 0 0 9 0;way b 0 5 9 5;way c 0 2 9 2;way d 0 9 9 9;");
        Checks.dueFine("kin", x, x.kin(0), 2);
        Checks.dueFine("kin", x, x.kin(1), 2);
        Checks.dueFine("kin", x, x.kin(2), 0);
        Checks.dueFine("kin", x, x.kin(3), 1);
        Checks.due("the fraction stays", x.top(), 0);
        Checks.dueRefused("no way", x, x.kin(4), 2);
        Checks.dueRefused("no way", x, x.kin(-1), 2);
        Checks.dueFine("middle", x, x.middle(), 1);
        Checks.dueFine("groups", x, x.groups(NONE, 3, 1), 4);
        Checks.dueFine("groups", x, x.groups(NONE, 4, 1), 3);
        Checks.dueFine("groups", x, x.groups(NONE, 9, 1), 2);
        Checks.dueFine("groups", x, x.groups(NONE, 16, 1), 1);
        Checks.dueFine("its own group", x, x.groups(3, 9, 1), 8);
        Checks.dueFine("by others, too", x, x.groups(0, 9, 1), 7);
        Checks.dueFine("by others, too", x, x.groups(3, 16, 1), 15);
        Checks.dueRefused("way -2", x, x.groups(-2, 9, 1), 1);
        Checks.dueRefused("no leash", x, x.groups(9, 9, 0), 1);
        Checks.dueRefused("no leash", x, x.groups(NONE, 100001, 1), 1);
        Checks.dueRefused("no way", x, x.groups(4, 9, 1), 2);
        TwoLeash y = Checks.loaded("way a 0 0 9 0;");
        Checks.dueRefused("alone", y, y.kin(0), 5);
        Checks.dueRefused("alone", y, y.middle(), 5);
        Checks.dueFine("alone", y, y.groups(NONE, 0, 1), 1);
        TwoLeash u = Checks.loaded("way a 0 0 2 0;way b 0 0 1 1 2 0;way c 0 0 1 1 2 0;");
        Checks.dueFine("the first of several", u, u.middle(), 0);
        Checks.dueFine("kin by 0", u, u.kin(1), 2);
        // c is 1 by 2 from both others, which are 1 from one another.
        TwoLeash w = Checks.loaded("way a 0 0 1 0 1 1;way b 0 0 0 1 1 1;way c 0 0 1 1;");
        Checks.dueFine("below 1", w, w.middle(), 2);
        TwoLeash z = Checks.loaded("way a 0 0 9 0;way b 0 3 9 3;way c 0 6 9 6;way d 0 3 9 3;");
        Checks.dueFine("the first of several", z, z.middle(), 1);
        Checks.dueFine("the first of several", z, z.kin(0), 1);
        Checks.dueFine("the first of several", z, z.kin(2), 1);
    }

    /** Promises 34 and 35. */
    private static void withoutAndTurned() {
        TwoLeash x = Checks.loaded("way a 0 0 3 4 9 0 3 4;way b 0 0 9 0;");
        Checks.dueFraction("without the last", x, x.without(0, 3, 1), 16, 1);
        Checks.dueFraction("without the first", x, x.without(0, 0, 1), 52, 1);
        Checks.dueFraction("without one between", x, x.without(0, 1, 1), 52, 1);
        Checks.dueRefused("its neighbours are alike", x, x.without(0, 2, 1), 5);
        Checks.dueRefused("two points alone", x, x.without(1, 0, 0), 5);
        Checks.dueRefused("two points alone", x, x.without(1, 1, 0), 5);
        Checks.dueRefused("one way twice", x, x.without(0, 0, 0), 4);
        Checks.dueRefused("no point", x, x.without(0, 4, 1), 2);
        Checks.dueRefused("no point", x, x.without(1, 2, 0), 2);
        Checks.dueRefused("no way", x, x.without(2, 0, 0), 2);
        Checks.dueRefused("no way", x, x.without(0, 0, 2), 2);
        Checks.due("nothing is gone", x.way(0, 0), 4);
        TwoLeash r = Checks.loaded("way a 0 0 3 4 0 0;way b 0 0 3 4;");
        Checks.dueFraction("ends have one neighbour", r, r.without(0, 0, 1), 25, 1);
        Checks.dueFraction("ends have one neighbour", r, r.without(0, 2, 1), 0, 1);
        Checks.dueRefused("neighbours alike", r, r.without(0, 1, 1), 5);

        TwoLeash y = Checks.loaded("way a 0 0 18 0;way b 18 1 6 1 12 1 0 1;");
        Checks.dueFraction("WALK turned", y, y.turned(0, 1, 0), 10, 1);
        Checks.dueFraction("WEAK turned", y, y.turned(0, 1, 1), 1, 1);
        Checks.dueFraction("HOPS turned", y, y.turned(0, 1, 2), 145, 1);
        Checks.due("it is not turned", y.way(1, 10), 18);
        Checks.dueRefused("KIND 3", y, y.turned(0, 0, 3), 1);
        Checks.dueRefused("KIND -1", y, y.turned(0, 9, -1), 1);
        Checks.dueRefused("no way", y, y.turned(0, 2, 0), 2);
        Checks.dueRefused("one way twice", y, y.turned(1, 1, 0), 4);
    }

    /** Promises 36 and 37. */
    private static void printAndOut() {
        String text = "way abcdefgh 0 0 18 9 10 10;way z 9 9 0 10;";
        TwoLeash x = new TwoLeash();
        Checks.dueFine("load", x, Checks.load(x, text.replace(" ", "\n \n")), 2);
        Checks.dueRefused("nothing is printed yet", x, x.out(0), 5);
        Checks.dueFine("print", x, x.print(), text.length());
        for (int i = 0; i < text.length(); i++) {
            Checks.dueFine("out " + i, x, x.out(i), text.charAt(i));
        }
        Checks.dueRefused("behind OUT", x, x.out(text.length()), 5);
        Checks.dueRefused("behind OUT", x, x.out(HIGHEST), 5);
        Checks.dueRefused("ahead of OUT", x, x.out(-1), 1);
        Checks.dueRefused("ahead of OUT", x, x.out(LOWEST), 1);
        x.move(0, 0, 5, 0);
        Checks.due("OUT stays", x.out(13), '0');
        Checks.duePrinted("printed anew", x, text.replace("h 0 0", "h 5 0"));
        Checks.load(x, "");
        Checks.due("OUT stays", x.out(0), 'w');
        Checks.dueFine("nothing to print", x, x.print(), 0);
        Checks.dueRefused("OUT is empty", x, x.out(0), 5);
        StringBuilder longest = new StringBuilder();
        for (char name = 'a'; name <= 'd'; name++) {
            longest.append("way abcdefg").append(name);
            for (int i = 0; i < 8; i++) {
                longest.append(' ').append(10 + i).append(" 18");
            }
            longest.append(';');
        }
        Checks.dueFine("the longest text", x, Checks.load(x, longest.toString()), 4);
        Checks.duePrinted("the longest text", x, longest.toString());
    }

    /** Promises 38 to 41. */
    private static void moveAddDropTurn() {
        TwoLeash x = Checks.loaded("way a 0 0 3 4 6 0;way b 1 1 2 2;");
        Checks.dueFine("move", x, x.move(0, 1, 18, 18), 421);
        Checks.duePrinted("move", x, "way a 0 0 18 18 6 0;way b 1 1 2 2;");
        Checks.dueRefused("it is there", x, x.move(0, 1, 18, 18), 4);
        Checks.dueRefused("like the one ahead", x, x.move(0, 1, 0, 0), 4);
        Checks.dueRefused("like the one behind", x, x.move(0, 1, 6, 0), 4);
        Checks.dueFine("like one that is no neighbour", x, x.move(0, 0, 6, 0), 36);
        Checks.dueRefused("x 19", x, x.move(9, 0, 19, 0), 1);
        Checks.dueRefused("x -1", x, x.move(0, 0, -1, 0), 1);
        Checks.dueRefused("y 19", x, x.move(0, 9, 0, 19), 1);
        Checks.dueRefused("y -1", x, x.move(0, 0, 0, -1), 1);
        Checks.dueRefused("no point", x, x.move(0, 3, 1, 1), 2);
        Checks.dueRefused("no point", x, x.move(0, -1, 1, 1), 2);
        Checks.dueRefused("no way", x, x.move(2, 0, 1, 1), 2);

        Checks.dueFine("add ahead of all", x, x.add(1, 0, 5, 5), 3);
        Checks.dueFine("add behind all", x, x.add(1, 3, 7, 7), 4);
        Checks.dueFine("add between", x, x.add(1, 2, 9, 0), 5);
        Checks.duePrinted("add", x, "way a 6 0 18 18 6 0;way b 5 5 1 1 9 0 2 2 7 7;");
        Checks.dueRefused("like the one ahead", x, x.add(1, 3, 9, 0), 4);
        Checks.dueRefused("like the one behind", x, x.add(1, 3, 2, 2), 4);
        Checks.dueRefused("like the first", x, x.add(1, 0, 5, 5), 4);
        Checks.dueRefused("like the last", x, x.add(1, 5, 7, 7), 4);
        Checks.dueRefused("no point", x, x.add(1, 6, 0, 0), 2);
        Checks.dueRefused("no point", x, x.add(1, -1, 0, 0), 2);
        Checks.dueRefused("no way", x, x.add(2, 0, 0, 0), 2);
        Checks.dueRefused("no way", x, x.add(-1, 0, 0, 0), 2);
        Checks.dueRefused("x 19", x, x.add(9, 0, 19, 0), 1);
        Checks.dueRefused("y -1", x, x.add(1, 0, 0, -1), 1);
        Checks.dueFine("seven", x, x.add(1, 5, 0, 0) + x.add(1, 6, 1, 0) - 6, 7);
        Checks.dueFine("eight", x, x.add(1, 7, 2, 0), 8);
        Checks.dueRefused("there are eight", x, x.add(1, 8, 3, 0), 3);
        Checks.dueRefused("there are eight, and it is alike", x, x.add(1, 8, 2, 0), 3);
        Checks.dueRefused("there are eight, and no point", x, x.add(1, 9, 2, 0), 2);

        Checks.dueFine("drop", x, x.drop(1, 3), 7);
        Checks.dueFine("drop the first", x, x.drop(1, 0), 6);
        Checks.dueFine("drop the last", x, x.drop(1, 5), 5);
        Checks.duePrinted("drop", x, "way a 6 0 18 18 6 0;way b 1 1 9 0 7 7 0 0 1 0;");
        Checks.dueRefused("neighbours are alike", x, x.drop(0, 1), 4);
        Checks.dueRefused("no point", x, x.drop(0, 3), 2);
        Checks.dueRefused("no point", x, x.drop(0, -1), 2);
        Checks.dueRefused("no way", x, x.drop(2, 0), 2);
        Checks.dueFine("an end has one neighbour", x, x.drop(0, 2), 2);
        Checks.dueRefused("two alone", x, x.drop(0, 0), 5);
        Checks.dueRefused("two alone", x, x.drop(0, 1), 5);

        Checks.dueFine("turn", x, x.turn(1), 5);
        Checks.duePrinted("turn", x, "way a 6 0 18 18;way b 1 0 0 0 7 7 9 0 1 1;");
        Checks.dueRefused("no way", x, x.turn(2), 2);
        Checks.dueRefused("no way", x, x.turn(-1), 2);
    }

    /** Promise 42. */
    private static void undoOfActs() {
        String text = "way a 0 0 3 4 6 0;way b 1 1 2 2;";
        TwoLeash x = Checks.loaded(text);
        x.move(0, 0, 9, 9);
        x.add(1, 0, 8, 8);
        x.drop(0, 1);
        x.turn(1);
        x.drop(0, 0);
        Checks.due("a refused act is not kept", x.many(2), 4);
        Checks.duePrinted("four acts", x, "way a 9 9 6 0;way b 2 2 1 1 8 8;");
        Checks.dueFine("undo turn", x, x.undo(), 3);
        Checks.duePrinted("undo turn", x, "way a 9 9 6 0;way b 8 8 1 1 2 2;");
        Checks.dueFine("undo drop", x, x.undo(), 2);
        Checks.duePrinted("undo drop", x, "way a 9 9 3 4 6 0;way b 8 8 1 1 2 2;");
        Checks.dueFine("an act behind undo", x, x.turn(0), 3);
        Checks.dueFine("undo it", x, x.undo(), 2);
        Checks.dueFine("undo add", x, x.undo(), 1);
        Checks.dueFine("undo move", x, x.undo(), 0);
        Checks.duePrinted("as at first", x, text);
        Checks.dueRefused("nothing more", x, x.undo(), 5);
        for (int i = 1; i <= 13; i++) {
            Checks.dueFine("move " + i, x, x.move(1, 1, 2 + i, 2), 1);
            Checks.due("kept", x.many(2), Math.min(i, 10));
        }
        for (int i = 9; i >= 0; i--) {
            Checks.dueFine("undo, left " + i, x, x.undo(), i);
            Checks.due("where it was", x.way(1, 11), 5 + i);
        }
        Checks.dueRefused("ten are kept", x, x.undo(), 5);
        Checks.duePrinted("the first three acts stay", x, "way a 0 0 3 4 6 0;way b 1 1 5 2;");
    }

    /** STATUS 1 to 5 and 9: nothing else changes. */
    private static void refusalsChangeNothing() {
        TwoLeash x = Checks.loaded(THREE);
        x.near(1, 0, 2, 0);
        x.print();
        x.turn(0);
        x.add(0, 3, 1, 1);
        x.move(0, 0, 10, 0);
        x.drop(0, 1);
        x.nearest(0, 0, 0);
        x.farthest(0, 0);
        x.ring(0, 1);
        x.without(0, 0, 1);
        x.turned(0, 1, 9);
        x.shortest(0, 1, 9);
        x.critical(0, 1, 400);
        x.pieces(0, 0);
        x.load(5);
        Checks.load(x, "way");
        Checks.due("acts", x.many(2), 1);
        Checks.due("top", x.top(), 9);
        Checks.due("bottom", x.bottom(), 2);
        Checks.due("OUT", x.out(6), '0');
        Checks.duePrinted("ways", x, "way a 10 0 0 0;" + THREE.substring(15));
    }
}
