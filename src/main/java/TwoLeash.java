/**
 * Two walkers on a leash: ways drawn by points, and the leashes by which two of them can be walked.
 *
 * Every answer is exact. A place on an edge is a root, kept as base + bend * sqrt(depth / below)
 * over the edge's square, and two places are compared by squares of whole numbers alone.
 * All rows are made by the constructor and used again, as what a run makes is counted.
 */
public final class TwoLeash {
    public static final int NONE = -1;

    private static final int MOST_WAYS = 4;
    private static final int MOST_POINTS = 8;
    private static final int MOST_EDGES = MOST_POINTS - 1;
    private static final int GREATEST_NUMBER = 18;
    private static final int GREATEST_SQUARE = 2 * GREATEST_NUMBER * GREATEST_NUMBER;
    private static final int TAPE_BYTES = 700;
    private static final int FED_BYTES = 20;
    private static final int OUT_BYTES = 256;
    private static final int MOST_ACTS = 10;
    private static final int MOST_ABOVE = 100000;
    private static final int MOST_BELOW = 1000;
    private static final int MOST_ROWS = 1000000000;
    private static final int THOUSAND = 1000;

    private static final int WALK = 0;
    private static final int WEAK = 1;
    private static final int HOPS = 2;

    private static final int FINE = 0;
    private static final int BAD_NUMBER = 1;
    private static final int NO_SUCH = 2;
    private static final int TOO_MANY = 3;
    private static final int SO_ALREADY = 4;
    private static final int THERE_IS_NONE = 5;
    private static final int FAULTY = 9;

    private final byte[] tape = new byte[TAPE_BYTES];
    private int taped = 0;
    private final Reader reader = new Reader();
    private int faultKind = NONE;
    private int faultPlace = NONE;

    private final Track[] tracks = new Track[MOST_WAYS];
    private int ways = 0;
    private final Acts acts = new Acts();
    private final byte[] written = new byte[OUT_BYTES];
    private int writtenBytes = 0;

    private int status = FINE;
    private final Fraction told = new Fraction();
    private final Fraction found = new Fraction();
    private final Fraction best = new Fraction();
    private final Fraction worst = new Fraction();
    private final Matcher matcher = new Matcher();
    private final Side spareSide = new Side();
    private final Track spare = new Track();
    private final Track spareEdge = new Track();

    public TwoLeash() {
        for (int way = 0; way < MOST_WAYS; way++) {
            tracks[way] = new Track();
        }
    }

    public int status() {
        return status;
    }

    public long top() {
        return told.above;
    }

    public long bottom() {
        return told.below;
    }

    public int feed(int a, int b, int c, int d, int e) {
        if (taped > TAPE_BYTES - FED_BYTES) {
            return NONE;
        }
        tapeInt(a);
        tapeInt(b);
        tapeInt(c);
        tapeInt(d);
        tapeInt(e);
        return taped;
    }

    public int load(int n) {
        if (n < 0 || n > taped) {
            return refuse(BAD_NUMBER);
        }
        taped = 0;
        faultKind = reader.read(tape, n);
        faultPlace = faultKind == 0 ? NONE : reader.faultPlace();
        if (faultKind != 0) {
            return refuse(FAULTY);
        }
        ways = reader.ways;
        for (int way = 0; way < ways; way++) {
            tracks[way].copy(reader.tracks[way]);
        }
        acts.forget();
        return answer(ways);
    }

    public int fault(int what) {
        if (what == 0) {
            return faultKind;
        }
        return what == 1 ? faultPlace : NONE;
    }

    // ---- ways

    public int many(int what) {
        if (what < 0 || what > 2) {
            return refuse(BAD_NUMBER);
        }
        if (what == 0) {
            return answer(ways);
        }
        return answer(what == 1 ? pointsOfAll() : acts.count);
    }

    public int way(int way, int what) {
        boolean ofX = what >= 10 && what < 10 + MOST_POINTS;
        boolean ofY = what >= 20 && what < 20 + MOST_POINTS;
        if (!ofX && !ofY && (what < 0 || what > 2)) {
            return refuse(BAD_NUMBER);
        }
        if (!isWay(way)) {
            return refuse(NO_SUCH);
        }
        Track track = tracks[way];
        if (ofX || ofY) {
            int i = ofX ? what - 10 : what - 20;
            if (i >= track.count) {
                return refuse(NO_SUCH);
            }
            return answer(ofX ? track.xs[i] : track.ys[i]);
        }
        if (what == 0) {
            return answer(track.count);
        }
        return answer(what == 1 ? track.squaresOfEdges() : track.longestEdge());
    }

    public int square(int way, int i, int other, int k) {
        if (!isPoint(way, i) || !isPoint(other, k)) {
            return refuse(NO_SUCH);
        }
        return answer(tracks[way].squareTo(i, tracks[other], k));
    }

    public boolean near(int way, int i, int other, int k) {
        if (!isPoint(way, i) || !isEdge(other, k)) {
            return deny(NO_SUCH);
        }
        spareSide.stretch(tracks[other], k, tracks[way], i);
        found.put(spareSide.leastAbove(), spareSide.leastBelow());
        return tell(found);
    }

    public int nearest(int way, int i, int other) {
        if (!isPoint(way, i) || !isWay(other)) {
            return refuse(NO_SUCH);
        }
        if (way == other) {
            return refuse(SO_ALREADY);
        }
        int edge = findNearest(tracks[way], i, tracks[other]);
        tell(found);
        return edge;
    }

    public int farthest(int way, int other) {
        status = checkCouple(true, way, other);
        if (status != FINE) {
            return NONE;
        }
        int point = NONE;
        for (int i = 0; i < tracks[way].count; i++) {
            findNearest(tracks[way], i, tracks[other]);
            if (point == NONE || best.isBelow(found)) {
                point = i;
                best.copy(found);
            }
        }
        tell(best);
        return point;
    }

    public int meets(int way, int other, int what) {
        if (what < 0 || what > 1) {
            return refuse(BAD_NUMBER);
        }
        if (!isWay(way) || !isWay(other)) {
            return refuse(NO_SUCH);
        }
        Track one = tracks[way];
        Track two = tracks[other];
        int couples = 0;
        for (int i = 0; i + 1 < one.count; i++) {
            int from = way == other ? i + 2 : 0;
            for (int k = from; k + 1 < two.count; k++) {
                if (one.crosses(i, two, k) || what == 0 && one.touches(i, two, k)) {
                    couples++;
                }
            }
        }
        return answer(couples);
    }

    public int bends(int way, int what) {
        if (what < 0 || what > 3) {
            return refuse(BAD_NUMBER);
        }
        if (!isWay(way)) {
            return refuse(NO_SUCH);
        }
        int points = 0;
        for (int i = 1; i + 1 < tracks[way].count; i++) {
            if (tracks[way].bendAt(i) == what) {
                points++;
            }
        }
        return answer(points);
    }

    // ---- sides of cells

    public int free(int way, int other, boolean left, int i, int j, int n, int d, int what) {
        status = checkSide(isLeash(n, d) && (what == 0 || what == 1), way, other, left, i, j);
        if (status != FINE) {
            return NONE;
        }
        Side side = measuredSide(way, other, left, i, j, n, d);
        if (!side.isFree) {
            return refuse(THERE_IS_NONE);
        }
        return answer(what == 0 ? side.firstInThousandths() : side.lastInThousandths());
    }

    public int low(int way, int other, boolean left, int i, int j, int n, int d) {
        status = checkSide(isLeash(n, d), way, other, left, i, j);
        if (status != FINE) {
            return NONE;
        }
        Side lowest = measuredSide(way, other, left, i, j, n, d).lowest;
        if (lowest == null) {
            return refuse(THERE_IS_NONE);
        }
        return answer(lowest.firstInThousandths());
    }

    public int sides(int way, int other, int n, int d, int what) {
        status = checkCouple(isLeash(n, d) && what >= 0 && what <= 2, way, other);
        if (status != FINE) {
            return NONE;
        }
        return answer(measuredCells(way, other, n, d).countSides(what));
    }

    // ---- leashes

    public int enough(int way, int other, int kind, int n, int d) {
        status = checkCouple(isKind(kind) && isLeash(n, d), way, other);
        if (status != FINE) {
            return NONE;
        }
        return answer(matcher.isEnough(tracks[way], tracks[other], kind, n, d) ? 1 : 0);
    }

    public boolean shortest(int way, int other, int kind) {
        status = checkCouple(isKind(kind), way, other);
        if (status != FINE) {
            return false;
        }
        matcher.findShortest(tracks[way], tracks[other], kind, found);
        return tell(found);
    }

    public int criticals(int way, int other, int k) {
        status = checkCouple(k == NONE || k == WALK || k == WEAK, way, other);
        if (status != FINE) {
            return NONE;
        }
        if (k == NONE) {
            return answer(allChanges(way, other).count);
        }
        matcher.findShortest(tracks[way], tracks[other], k, found);
        return answer(allChanges(way, other).countBelow(found));
    }

    public boolean critical(int way, int other, int k) {
        status = checkCouple(k >= 0, way, other);
        if (status != FINE) {
            return false;
        }
        Changes changes = allChanges(way, other);
        if (k >= changes.count) {
            return deny(THERE_IS_NONE);
        }
        found.put(changes.above[k], changes.below[k]);
        return tell(found);
    }

    public int walk(int way, int other, int n, int d, int k, boolean ofOther) {
        status = checkCouple(isLeash(n, d) && k >= NONE, way, other);
        if (status != FINE) {
            return NONE;
        }
        Cells cells = measuredCells(way, other, n, d);
        if (!cells.serve(WALK)) {
            return refuse(THERE_IS_NONE);
        }
        cells.trace();
        if (k == NONE) {
            return answer(cells.traced);
        }
        if (k >= cells.traced) {
            return refuse(THERE_IS_NONE);
        }
        int fromBehind = cells.traced - 1 - k;
        return answer(ofOther ? cells.otherTrail[fromBehind] : cells.firstTrail[fromBehind]);
    }

    public int hops(int way, int other, int k, boolean ofOther) {
        status = checkCouple(k >= NONE, way, other);
        if (status != FINE) {
            return NONE;
        }
        Jumps jumps = matcher.jumps;
        jumps.lay(tracks[way], tracks[other]);
        if (k == NONE) {
            return answer(jumps.jump(2 * MOST_POINTS));
        }
        if (jumps.jump(k) < k) {
            return refuse(THERE_IS_NONE);
        }
        return answer(ofOther ? jumps.otherAt : jumps.firstAt);
    }

    public int sums(int way, int other, int what) {
        status = checkCouple(what >= 0 && what <= 2, way, other);
        if (status != FINE) {
            return NONE;
        }
        Jumps jumps = matcher.jumps;
        jumps.lay(tracks[way], tracks[other]);
        jumps.addUp();
        if (what == 0) {
            return answer(jumps.sums[0]);
        }
        return answer(what == 1 ? jumps.leastRows[0] : jumps.allRows[0]);
    }

    public int reach(int way, int other, int n, int d, int what) {
        status = checkCouple(isLeash(n, d) && what >= 0 && what <= 2, way, other);
        if (status != FINE) {
            return NONE;
        }
        Cells cells = measuredCells(way, other, n, d);
        int come = 0;
        int greatest = NONE;
        for (int i = 0; i < cells.firstEdges; i++) {
            for (int j = 0; j < cells.otherEdges; j++) {
                if (cells.isComeInto(i, j)) {
                    come++;
                    greatest = Math.max(greatest, what == 1 ? i : j);
                }
            }
        }
        if (what != 0 && come == 0) {
            return refuse(THERE_IS_NONE);
        }
        return answer(what == 0 ? come : greatest);
    }

    // ---- more ways

    public int piece(int way, int other, int what) {
        status = checkCouple(what == 0 || what == 1, way, other);
        if (status != FINE) {
            return NONE;
        }
        int ends = findPiece(tracks[way], tracks[other]);
        return answer(what == 0 ? ends / MOST_POINTS : ends % MOST_POINTS);
    }

    public boolean pieces(int way, int other) {
        status = checkCouple(true, way, other);
        if (status != FINE) {
            return false;
        }
        findPiece(tracks[way], tracks[other]);
        return tell(best);
    }

    public int ring(int way, int other) {
        status = checkCouple(true, way, other);
        if (status != FINE) {
            return NONE;
        }
        Track round = tracks[other];
        if (!round.isAlike(0, round.count - 1)) {
            return refuse(THERE_IS_NONE);
        }
        int begin = NONE;
        for (int i = 0; i + 1 < round.count; i++) {
            spare.copyBegun(round, i);
            matcher.findShortest(tracks[way], spare, WALK, found);
            if (begin == NONE || found.isBelow(best)) {
                begin = i;
                best.copy(found);
            }
        }
        tell(best);
        return begin;
    }

    public int thinned(int way, int n, int d, int what) {
        if (!isLeash(n, d) || what < 0 || what > 1) {
            return refuse(BAD_NUMBER);
        }
        if (!isWay(way)) {
            return refuse(NO_SUCH);
        }
        int last = tracks[way].count - 1;
        long steps = stepsThatServe(tracks[way], n, d);
        int ends = 1 | 1 << last;
        int fewest = 0;
        // The sets rise, so that of several with as few POINTS the first one is the least as bits.
        for (int set = ends; set < 2 << last; set++) {
            boolean fewer = fewest == 0 || Integer.bitCount(set) < Integer.bitCount(fewest);
            if (fewer && (set & ends) == ends && isChain(set, last, steps)) {
                fewest = set;
            }
        }
        return answer(what == 0 ? Integer.bitCount(fewest) : fewest);
    }

    public int kin(int way) {
        if (!isWay(way)) {
            return refuse(NO_SUCH);
        }
        int kin = NONE;
        for (int other = 0; other < ways; other++) {
            if (other != way) {
                matcher.findShortest(tracks[way], tracks[other], WALK, found);
                if (kin == NONE || found.isBelow(best)) {
                    kin = other;
                    best.copy(found);
                }
            }
        }
        return kin == NONE ? refuse(THERE_IS_NONE) : answer(kin);
    }

    public int middle() {
        if (ways < 2) {
            return refuse(THERE_IS_NONE);
        }
        int middle = NONE;
        for (int way = 0; way < ways; way++) {
            findWorst(way);
            if (middle == NONE || worst.isBelow(best)) {
                middle = way;
                best.copy(worst);
            }
        }
        return answer(middle);
    }

    public int groups(int way, int n, int d) {
        if (!isLeash(n, d) || way < NONE) {
            return refuse(BAD_NUMBER);
        }
        if (way >= ways) {
            return refuse(NO_SUCH);
        }
        int links = linksBy(n, d);
        if (way != NONE) {
            return answer(groupOf(way, links));
        }
        int groups = 0;
        for (int first = 0; first < ways; first++) {
            // A group is counted at the first of its WAYS.
            if ((groupOf(first, links) & (1 << first) - 1) == 0) {
                groups++;
            }
        }
        return answer(groups);
    }

    public boolean without(int way, int i, int other) {
        if (!isPoint(way, i) || !isWay(other)) {
            return deny(NO_SUCH);
        }
        if (way == other) {
            return deny(SO_ALREADY);
        }
        Track track = tracks[way];
        if (track.count <= 2 || track.isAlike(i - 1, i + 1)) {
            return deny(THERE_IS_NONE);
        }
        spare.copyWithout(track, i);
        matcher.findShortest(spare, tracks[other], WALK, found);
        return tell(found);
    }

    public boolean turned(int way, int other, int kind) {
        status = checkCouple(isKind(kind), way, other);
        if (status != FINE) {
            return false;
        }
        spare.copyTurned(tracks[other]);
        matcher.findShortest(tracks[way], spare, kind, found);
        return tell(found);
    }

    public int print() {
        writtenBytes = 0;
        for (int way = 0; way < ways; way++) {
            Track track = tracks[way];
            writeWord(Reader.WAY_WORD);
            writeByte(' ');
            writeWord(track.name);
            for (int i = 0; i < track.count; i++) {
                writeNumber(track.xs[i]);
                writeNumber(track.ys[i]);
            }
            writeByte(';');
        }
        return answer(writtenBytes);
    }

    public int out(int i) {
        if (i < 0) {
            return refuse(BAD_NUMBER);
        }
        if (i >= writtenBytes) {
            return refuse(THERE_IS_NONE);
        }
        return answer(written[i]);
    }

    // ---- acts

    public int move(int way, int i, int x, int y) {
        if (!isNumber(x) || !isNumber(y)) {
            return refuse(BAD_NUMBER);
        }
        if (!isPoint(way, i)) {
            return refuse(NO_SUCH);
        }
        Track track = tracks[way];
        if (track.isAt(i - 1, x, y) || track.isAt(i, x, y) || track.isAt(i + 1, x, y)) {
            return refuse(SO_ALREADY);
        }
        acts.keep(way, track);
        int byX = x - track.xs[i];
        int byY = y - track.ys[i];
        track.xs[i] = x;
        track.ys[i] = y;
        return answer(byX * byX + byY * byY);
    }

    public int add(int way, int i, int x, int y) {
        if (!isNumber(x) || !isNumber(y)) {
            return refuse(BAD_NUMBER);
        }
        if (!isWay(way) || i < 0 || i > tracks[way].count) {
            return refuse(NO_SUCH);
        }
        Track track = tracks[way];
        if (track.count >= MOST_POINTS) {
            return refuse(TOO_MANY);
        }
        if (track.isAt(i - 1, x, y) || track.isAt(i, x, y)) {
            return refuse(SO_ALREADY);
        }
        acts.keep(way, track);
        track.insert(i, x, y);
        return answer(track.count);
    }

    public int drop(int way, int i) {
        if (!isPoint(way, i)) {
            return refuse(NO_SUCH);
        }
        Track track = tracks[way];
        if (track.count <= 2) {
            return refuse(THERE_IS_NONE);
        }
        if (track.isAlike(i - 1, i + 1)) {
            return refuse(SO_ALREADY);
        }
        acts.keep(way, track);
        spare.copyWithout(track, i);
        track.copy(spare);
        return answer(track.count);
    }

    public int turn(int way) {
        if (!isWay(way)) {
            return refuse(NO_SUCH);
        }
        acts.keep(way, tracks[way]);
        spare.copyTurned(tracks[way]);
        tracks[way].copy(spare);
        return answer(tracks[way].count);
    }

    public int undo() {
        if (acts.count == 0) {
            return refuse(THERE_IS_NONE);
        }
        acts.takeBack(tracks);
        return answer(acts.count);
    }

    // ---- STATUS and FRACTION

    private int answer(int value) {
        status = FINE;
        return value;
    }

    private int refuse(int reason) {
        status = reason;
        return NONE;
    }

    private boolean deny(int reason) {
        status = reason;
        return false;
    }

    private boolean tell(Fraction fraction) {
        told.copy(fraction);
        told.reduce();
        status = FINE;
        return true;
    }

    /** STATUS of a call for two unlike WAYS whose numbers can be, or can't. */
    private int checkCouple(boolean numbersCanBe, int way, int other) {
        if (!numbersCanBe) {
            return BAD_NUMBER;
        }
        if (!isWay(way) || !isWay(other)) {
            return NO_SUCH;
        }
        return way == other ? SO_ALREADY : FINE;
    }

    private int checkSide(boolean numbersCanBe, int way, int other, boolean left, int i, int j) {
        if (!numbersCanBe) {
            return BAD_NUMBER;
        }
        boolean stands = left ? isPoint(way, i) && isEdge(other, j) : isEdge(way, i) && isPoint(other, j);
        if (!stands) {
            return NO_SUCH;
        }
        return way == other ? SO_ALREADY : FINE;
    }

    private boolean isWay(int way) {
        return way >= 0 && way < ways;
    }

    private boolean isPoint(int way, int i) {
        return isWay(way) && i >= 0 && i < tracks[way].count;
    }

    private boolean isEdge(int way, int i) {
        return isWay(way) && i >= 0 && i < tracks[way].count - 1;
    }

    private static boolean isNumber(int number) {
        return number >= 0 && number <= GREATEST_NUMBER;
    }

    private static boolean isKind(int kind) {
        return kind >= WALK && kind <= HOPS;
    }

    private static boolean isLeash(int n, int d) {
        return n >= 0 && n <= MOST_ABOVE && d >= 1 && d <= MOST_BELOW;
    }

    // ---- the tape and OUT

    private void tapeInt(int four) {
        for (int shift = 24; shift >= 0 && taped < TAPE_BYTES; shift -= 8) {
            tape[taped] = (byte) (four >> shift);
            taped++;
        }
    }

    private void writeByte(int sign) {
        if (writtenBytes < OUT_BYTES) {
            written[writtenBytes] = (byte) sign;
            writtenBytes++;
        }
    }

    private void writeWord(long word) {
        for (int shift = 56; shift >= 0; shift -= 8) {
            int letter = (int) (word >>> shift) & 255;
            if (letter != 0) {
                writeByte(letter);
            }
        }
    }

    private void writeNumber(int number) {
        writeByte(' ');
        if (number >= 10) {
            writeByte('0' + number / 10);
        }
        writeByte('0' + number % 10);
    }

    // ---- what several calls look for

    private int pointsOfAll() {
        int points = 0;
        for (int way = 0; way < ways; way++) {
            points += tracks[way].count;
        }
        return points;
    }

    /** The EDGE nearest to a POINT; found is the least SQUARE. */
    private int findNearest(Track track, int i, Track other) {
        int nearestEdge = NONE;
        for (int k = 0; k + 1 < other.count; k++) {
            spareSide.stretch(other, k, track, i);
            if (nearestEdge == NONE || spareSide.isNearerThan(found)) {
                nearestEdge = k;
                found.put(spareSide.leastAbove(), spareSide.leastBelow());
            }
        }
        return nearestEdge;
    }

    private Cells measuredCells(int way, int other, int n, int d) {
        Cells cells = matcher.cells;
        cells.lay(tracks[way], tracks[other]);
        cells.measure(n, d);
        return cells;
    }

    private Side measuredSide(int way, int other, boolean left, int i, int j, int n, int d) {
        Cells cells = measuredCells(way, other, n, d);
        return left ? cells.leftOf(i, j) : cells.lowerOf(i, j);
    }

    private Changes allChanges(int way, int other) {
        matcher.cells.lay(tracks[way], tracks[other]);
        matcher.changes.collect(matcher.cells, 0, GREATEST_SQUARE);
        return matcher.changes;
    }

    /** The first and the last POINT of the best PIECE, as one number; best is its SHORTEST. */
    private int findPiece(Track track, Track other) {
        int ends = NONE;
        for (int i = 0; i < other.count; i++) {
            for (int k = i + 1; k < other.count; k++) {
                spare.copyPiece(other, i, k);
                matcher.findShortest(track, spare, WALK, found);
                if (ends == NONE || found.isBelow(best)) {
                    ends = i * MOST_POINTS + k;
                    best.copy(found);
                }
            }
        }
        return ends;
    }

    /** Which two POINTS may be neighbours in a thinned WAY: bit 8 i and k for POINTS i and k. */
    private long stepsThatServe(Track track, int n, int d) {
        long steps = 0;
        for (int i = 0; i < track.count; i++) {
            for (int k = i + 1; k < track.count; k++) {
                spare.copyPiece(track, i, k);
                spareEdge.copyEnds(spare);
                if (!track.isAlike(i, k) && matcher.isEnough(spareEdge, spare, WALK, n, d)) {
                    steps |= 1L << i * MOST_POINTS + k;
                }
            }
        }
        return steps;
    }

    private static boolean isChain(int set, int last, long steps) {
        int from = 0;
        for (int to = 1; to <= last; to++) {
            if ((set >> to & 1) != 0) {
                if ((steps >>> from * MOST_POINTS + to & 1) == 0) {
                    return false;
                }
                from = to;
            }
        }
        return true;
    }

    /** The greatest SHORTEST of a WAY with others comes into worst. */
    private void findWorst(int way) {
        worst.put(0, 1);
        for (int other = 0; other < ways; other++) {
            if (other != way) {
                matcher.findShortest(tracks[way], tracks[other], WALK, found);
                if (worst.isBelow(found)) {
                    worst.copy(found);
                }
            }
        }
    }

    /** Which two WAYS hang together by themselves: bit 4 a and b for WAYS a and b. */
    private int linksBy(int n, int d) {
        int links = 0;
        for (int way = 0; way < ways; way++) {
            for (int other = 0; other < way; other++) {
                if (matcher.isEnough(tracks[way], tracks[other], WALK, n, d)) {
                    links |= 1 << way * MOST_WAYS + other | 1 << other * MOST_WAYS + way;
                }
            }
        }
        return links;
    }

    private int groupOf(int way, int links) {
        int group = 1 << way;
        // As many rounds as there can be WAYS let the longest row of links come in.
        for (int round = 0; round < MOST_WAYS; round++) {
            for (int one = 0; one < ways; one++) {
                if ((group >> one & 1) != 0) {
                    group |= links >> one * MOST_WAYS & (1 << MOST_WAYS) - 1;
                }
            }
        }
        return group;
    }

    /** Numbers above and below a line, not always without a common divisor. */
    private static final class Fraction {
        private long above = 0;
        private long below = 1;

        void put(long top, long bottom) {
            above = top;
            below = bottom;
        }

        void copy(Fraction from) {
            above = from.above;
            below = from.below;
        }

        boolean isBelow(Fraction other) {
            return above * other.below < other.above * below;
        }

        void reduce() {
            long divisor = above;
            long rest = below;
            // Euclid takes fewer than 100 rounds for any two longs.
            for (int round = 0; round < 100 && rest != 0; round++) {
                long next = divisor % rest;
                divisor = rest;
                rest = next;
            }
            if (divisor > 1) {
                above /= divisor;
                below /= divisor;
            }
        }
    }

    /** A WAY, or one that is made of it for a while. */
    private static final class Track {
        private long name = 0;
        private int count = 0;
        private final int[] xs = new int[MOST_POINTS];
        private final int[] ys = new int[MOST_POINTS];

        void clear(long newName) {
            name = newName;
            count = 0;
        }

        void put(int x, int y) {
            if (count < MOST_POINTS) {
                xs[count] = x;
                ys[count] = y;
                count++;
            }
        }

        void insert(int i, int x, int y) {
            if (i < 0 || i > count || count >= MOST_POINTS) {
                return;
            }
            for (int k = count; k > i; k--) {
                xs[k] = xs[k - 1];
                ys[k] = ys[k - 1];
            }
            xs[i] = x;
            ys[i] = y;
            count++;
        }

        void copy(Track from) {
            copyPiece(from, 0, from.count - 1);
        }

        void copyPiece(Track from, int first, int last) {
            clear(from.name);
            for (int i = Math.max(first, 0); i <= last && i < from.count; i++) {
                put(from.xs[i], from.ys[i]);
            }
        }

        void copyEnds(Track from) {
            clear(from.name);
            if (from.count > 0) {
                put(from.xs[0], from.ys[0]);
                put(from.xs[from.count - 1], from.ys[from.count - 1]);
            }
        }

        void copyTurned(Track from) {
            clear(from.name);
            for (int i = from.count - 1; i >= 0; i--) {
                put(from.xs[i], from.ys[i]);
            }
        }

        void copyWithout(Track from, int gone) {
            clear(from.name);
            for (int i = 0; i < from.count; i++) {
                if (i != gone) {
                    put(from.xs[i], from.ys[i]);
                }
            }
        }

        void copyBegun(Track round, int begin) {
            copyPiece(round, begin, round.count - 1);
            // The last POINT of a RING is its first one, which stands here already.
            for (int i = 1; i <= begin && i < round.count; i++) {
                put(round.xs[i], round.ys[i]);
            }
        }

        boolean isAt(int i, int x, int y) {
            return i >= 0 && i < count && xs[i] == x && ys[i] == y;
        }

        boolean isAlike(int i, int k) {
            return k >= 0 && k < count && isAt(i, xs[k], ys[k]);
        }

        int squareTo(int i, Track other, int k) {
            int byX = other.xs[k] - xs[i];
            int byY = other.ys[k] - ys[i];
            return byX * byX + byY * byY;
        }

        int squaresOfEdges() {
            int together = 0;
            for (int i = 0; i + 1 < count; i++) {
                together += squareTo(i, this, i + 1);
            }
            return together;
        }

        int longestEdge() {
            int longest = 0;
            for (int i = 1; i + 1 < count; i++) {
                if (squareTo(i, this, i + 1) > squareTo(longest, this, longest + 1)) {
                    longest = i;
                }
            }
            return longest;
        }

        /** On which side of EDGE i a POINT of another WAY lies: above 0 at its left, 0 on its line. */
        int sideOf(int i, Track other, int k) {
            int alongX = xs[i + 1] - xs[i];
            int alongY = ys[i + 1] - ys[i];
            return Integer.signum(alongX * (other.ys[k] - ys[i]) - alongY * (other.xs[k] - xs[i]));
        }

        boolean isOn(int i, Track other, int k) {
            int x = other.xs[k];
            int y = other.ys[k];
            return sideOf(i, other, k) == 0
                && x >= Math.min(xs[i], xs[i + 1]) && x <= Math.max(xs[i], xs[i + 1])
                && y >= Math.min(ys[i], ys[i + 1]) && y <= Math.max(ys[i], ys[i + 1]);
        }

        boolean crosses(int i, Track other, int k) {
            return sideOf(i, other, k) * sideOf(i, other, k + 1) < 0
                && other.sideOf(k, this, i) * other.sideOf(k, this, i + 1) < 0;
        }

        /** If an end of one of two EDGES lies on the other one. */
        boolean touches(int i, Track other, int k) {
            return isOn(i, other, k) || isOn(i, other, k + 1)
                || other.isOn(k, this, i) || other.isOn(k, this, i + 1);
        }

        /** What a WAY does at a POINT between others: 0 left, 1 right, 2 straight on, 3 straight back. */
        int bendAt(int i) {
            int turn = sideOf(i - 1, this, i + 1);
            if (turn != 0) {
                return turn > 0 ? 0 : 1;
            }
            int onX = (xs[i] - xs[i - 1]) * (xs[i + 1] - xs[i]);
            int onY = (ys[i] - ys[i - 1]) * (ys[i + 1] - ys[i]);
            return onX + onY > 0 ? 2 : 3;
        }
    }

    /** Takes a TEXT apart, TOKEN by TOKEN, up to its end or its first FAULT. */
    private static final class Reader {
        private static final int NO_TOKEN = 0;
        private static final int WORD = 1;
        private static final int NUMBER = 2;
        private static final int SIGN = 3;
        private static final int END = 4;

        private static final int AT_WAY = 0;
        private static final int AT_NAME = 1;
        private static final int AT_X = 2;
        private static final int AT_Y = 3;

        private static final int MOST_LETTERS = 8;
        private static final int MOST_DIGITS = 2;
        /** A WORD is a number, a byte for each letter: eight letters just fit a long. */
        private static final long WAY_WORD = 'w' << 16 | 'a' << 8 | 'y';

        private final Track[] tracks = new Track[MOST_WAYS];
        private int ways = 0;
        private Track latest = new Track();
        private int awaited = AT_WAY;
        private int tokenAt = 0;
        private int next = 0;
        private int kind = END;
        private long value = 0;
        private int x = 0;

        Reader() {
            for (int way = 0; way < MOST_WAYS; way++) {
                tracks[way] = new Track();
            }
        }

        /** The FAULT, or 0. */
        int read(byte[] text, int length) {
            ways = 0;
            next = 0;
            awaited = AT_WAY;
            int fault = 0;
            // Each TOKEN has a byte, so that the end is seen in as many rounds and one.
            for (int round = 0; round <= length && fault == 0; round++) {
                scan(text, length);
                if (kind == END && awaited == AT_WAY) {
                    return 0;
                }
                fault = takeToken();
            }
            return fault;
        }

        int faultPlace() {
            return tokenAt;
        }

        private void scan(byte[] text, int length) {
            while (next < length && (text[next] == 10 || text[next] == 32)) {
                next++;
            }
            tokenAt = next;
            value = 0;
            if (next >= length) {
                kind = END;
            } else if (text[next] == ';') {
                kind = SIGN;
                next++;
            } else if (isLetter(text[next])) {
                while (next < length && isLetter(text[next])) {
                    value = value << 8 | text[next];
                    next++;
                }
                kind = next - tokenAt <= MOST_LETTERS ? WORD : NO_TOKEN;
            } else {
                while (next < length && isDigit(text[next])) {
                    value = value * 10 + text[next] - '0';
                    next++;
                }
                int digits = next - tokenAt;
                kind = digits >= 1 && digits <= MOST_DIGITS ? NUMBER : NO_TOKEN;
            }
        }

        private static boolean isLetter(int sign) {
            return sign >= 'a' && sign <= 'z';
        }

        private static boolean isDigit(int sign) {
            return sign >= '0' && sign <= '9';
        }

        private int takeToken() {
            if (kind == NO_TOKEN) {
                return 1;
            }
            if (awaited == AT_WAY) {
                return takeWay();
            }
            if (awaited == AT_NAME) {
                return takeName();
            }
            return awaited == AT_X ? takeX() : takeY();
        }

        private int takeWay() {
            if (kind != WORD || value != WAY_WORD) {
                return 2;
            }
            if (ways >= MOST_WAYS) {
                return 5;
            }
            awaited = AT_NAME;
            return 0;
        }

        private int takeName() {
            if (kind != WORD || value == WAY_WORD) {
                return 2;
            }
            for (int way = 0; way < ways; way++) {
                if (tracks[way].name == value) {
                    return 4;
                }
            }
            latest = tracks[ways];
            latest.clear(value);
            ways++;
            awaited = AT_X;
            return 0;
        }

        private int takeX() {
            if (kind == SIGN && latest.count >= 2) {
                awaited = AT_WAY;
                return 0;
            }
            if (kind != NUMBER) {
                return 2;
            }
            if (value > GREATEST_NUMBER) {
                return 3;
            }
            if (latest.count >= MOST_POINTS) {
                return 5;
            }
            x = (int) value;
            awaited = AT_Y;
            return 0;
        }

        private int takeY() {
            if (kind != NUMBER) {
                return 2;
            }
            if (value > GREATEST_NUMBER) {
                return 3;
            }
            int y = (int) value;
            if (latest.isAt(latest.count - 1, x, y)) {
                return 6;
            }
            latest.put(x, y);
            awaited = AT_X;
            return 0;
        }
    }

    /** WAYS as they were ahead of the latest ACTS, in a round row. */
    private static final class Acts {
        private final Track[] kept = new Track[MOST_ACTS];
        private final int[] owners = new int[MOST_ACTS];
        private int next = 0;
        private int count = 0;

        Acts() {
            for (int i = 0; i < MOST_ACTS; i++) {
                kept[i] = new Track();
            }
        }

        void forget() {
            count = 0;
        }

        void keep(int way, Track track) {
            kept[next].copy(track);
            owners[next] = way;
            next = next == MOST_ACTS - 1 ? 0 : next + 1;
            count = Math.min(count + 1, MOST_ACTS);
        }

        void takeBack(Track[] tracks) {
            next = next == 0 ? MOST_ACTS - 1 : next - 1;
            count--;
            tracks[owners[next]].copy(kept[next]);
        }
    }

    /**
     * A side of a CELL: an EDGE with a POINT. By a leash of above / below it is FREE between two PLACES,
     * each an end of the EDGE or (foot - or + sqrt(depth / below)) / length.
     */
    private static final class Side {
        /** Above the root of any depth * below: 648 * 648 * 1296 * 1296 * 1296 * 1296 is below its square. */
        private static final long BEYOND_ROOTS = 2000000000L;

        private long length = 1;
        private long foot = 0;
        private long startSquare = 0;
        private long endSquare = 0;
        private long asideSquare = 0;

        private long below = 1;
        private long depth = 0;
        private boolean fromStart = false;
        private boolean toEnd = false;
        private boolean isFree = false;
        /** The side, on the same EDGE, whose first FREE PLACE is LOW of this one; null if it is not REACHED. */
        private Side lowest = null;

        void stretch(Track edges, int edge, Track points, int point) {
            long alongX = edges.xs[edge + 1] - edges.xs[edge];
            long alongY = edges.ys[edge + 1] - edges.ys[edge];
            long toX = points.xs[point] - edges.xs[edge];
            long toY = points.ys[point] - edges.ys[edge];
            long aside = alongX * toY - alongY * toX;
            length = alongX * alongX + alongY * alongY;
            foot = alongX * toX + alongY * toY;
            startSquare = toX * toX + toY * toY;
            endSquare = startSquare - 2 * foot + length;
            asideSquare = aside * aside;
        }

        boolean hasFootWithin() {
            return foot > 0 && foot < length;
        }

        long leastAbove() {
            return hasFootWithin() ? asideSquare : Math.min(startSquare, endSquare);
        }

        long leastBelow() {
            return hasFootWithin() ? length : 1;
        }

        boolean isNearerThan(Fraction fraction) {
            return leastAbove() * fraction.below < fraction.above * leastBelow();
        }

        void span(long n, long d) {
            below = d;
            depth = length * n - asideSquare * d;
            fromStart = startSquare * d <= n;
            toEnd = endSquare * d <= n;
            isFree = fromStart || toEnd || hasFootWithin() && depth >= 0;
            lowest = null;
        }

        /** REACHED from a CELL over the side across from the corner, else over the one ahead on the same EDGE. */
        void comeFrom(Side across, Side ahead) {
            if (!isFree) {
                return;
            }
            Side before = ahead.lowest;
            if (across.lowest != null) {
                lowest = this;
            } else if (before != null) {
                if (before.compareFirst(this, false) <= 0) {
                    lowest = this;
                } else if (before.compareFirst(this, true) <= 0) {
                    lowest = before;
                }
            }
        }

        /** How the first FREE PLACE lies to the first or the last one of a side on the same EDGE. */
        private int compareFirst(Side other, boolean withLast) {
            long bend = fromStart ? 0 : -1;
            long otherBend = withLast ? (other.toEnd ? 0 : 1) : (other.fromStart ? 0 : -1);
            long base = fromStart ? 0 : foot;
            long otherBase = otherBend != 0 ? other.foot : withLast ? length : 0;
            long apart = base - otherBase;
            int left = signOf(apart * below, bend, depth * below);
            int right = other.depth == 0 ? 0 : (int) otherBend;
            if (left != right || left == 0) {
                return left - right;
            }
            // Of one sign: so their squares tell, where only one root is left.
            long squares = apart * apart * below + bend * bend * depth - otherBend * otherBend * other.depth;
            return left * signOf(squares, 2 * apart * bend, depth * below);
        }

        int firstInThousandths() {
            return fromStart ? 0 : inThousandths(-1);
        }

        int lastInThousandths() {
            return toEnd ? THOUSAND : inThousandths(1);
        }

        private int inThousandths(int bend) {
            int from = 0;
            int to = THOUSAND;
            // Ten halvings leave one of a thousand and one.
            for (int round = 0; round < 10 && from < to; round++) {
                int half = (from + to + 1) / 2;
                long apart = THOUSAND * foot - half * length;
                if (signOf(apart * below, THOUSAND * bend, depth * below) >= 0) {
                    from = half;
                } else {
                    to = half - 1;
                }
            }
            return from;
        }

        /** The sign of whole + times * sqrt(under), without a rounding. */
        private static int signOf(long whole, long times, long under) {
            int left = whole > 0 ? 1 : whole < 0 ? -1 : 0;
            int right = under == 0 || times == 0 ? 0 : times > 0 ? 1 : -1;
            if (left == 0) {
                return right;
            }
            if (right == 0 || left == right) {
                return left;
            }
            // whole * whole against times * times * under, which a long can't hold: by quotient and rest.
            long divisor = right * times;
            long size = left * whole;
            if (divisor <= 0 || size / divisor > BEYOND_ROOTS) {
                return left;
            }
            long quotient = size / divisor;
            long rest = size % divisor;
            long gap = under - quotient * quotient;
            if (gap < 0) {
                return left;
            }
            if (gap > 2 * quotient) {
                return right;
            }
            long more = (2 * quotient * divisor + rest) * rest - gap * divisor * divisor;
            return more > 0 ? left : more < 0 ? right : 0;
        }
    }

    /**
     * The CELLS of two WAYS. Their sides stand in rows, one for each EDGE, with a side for each POINT of the
     * other WAY: first those of the first WAY's EDGES (LOWER), then those of the other one's (LEFT).
     */
    private static final class Cells {
        private static final int ROWS = 2 * MOST_EDGES;

        private final Side[] sides = new Side[ROWS * MOST_POINTS];
        private int firstEdges = 0;
        private int otherEdges = 0;
        private final int[] firstTrail = new int[2 * MOST_POINTS];
        private final int[] otherTrail = new int[2 * MOST_POINTS];
        private int traced = 0;

        Cells() {
            for (int i = 0; i < ROWS * MOST_POINTS; i++) {
                sides[i] = new Side();
            }
        }

        int pointsBeside(int row) {
            if (row < MOST_EDGES) {
                return row < firstEdges ? otherEdges + 1 : 0;
            }
            return row - MOST_EDGES < otherEdges ? firstEdges + 1 : 0;
        }

        Side lowerOf(int i, int j) {
            return sides[i * MOST_POINTS + j];
        }

        Side leftOf(int i, int j) {
            return sides[(MOST_EDGES + j) * MOST_POINTS + i];
        }

        void lay(Track first, Track other) {
            firstEdges = first.count - 1;
            otherEdges = other.count - 1;
            for (int row = 0; row < ROWS; row++) {
                boolean ofFirst = row < MOST_EDGES;
                int edge = ofFirst ? row : row - MOST_EDGES;
                for (int point = 0; point < pointsBeside(row); point++) {
                    Side side = sides[row * MOST_POINTS + point];
                    side.stretch(ofFirst ? first : other, edge, ofFirst ? other : first, point);
                }
            }
        }

        /** Finds by a leash of n / d which sides are FREE, which ones REACHED. */
        void measure(long n, long d) {
            for (int row = 0; row < ROWS; row++) {
                for (int point = 0; point < pointsBeside(row); point++) {
                    sides[row * MOST_POINTS + point].span(n, d);
                }
            }
            // On the rims POINTS that are near enough are FREE from PLACE 0 on, which is LOW.
            for (int i = 0; i < firstEdges && lowerOf(i, 0).fromStart; i++) {
                lowerOf(i, 0).lowest = lowerOf(i, 0);
            }
            for (int j = 0; j < otherEdges && leftOf(0, j).fromStart; j++) {
                leftOf(0, j).lowest = leftOf(0, j);
            }
            for (int i = 0; i < firstEdges; i++) {
                for (int j = 0; j < otherEdges; j++) {
                    leftOf(i + 1, j).comeFrom(lowerOf(i, j), leftOf(i, j));
                    lowerOf(i, j + 1).comeFrom(leftOf(i, j), lowerOf(i, j));
                }
            }
        }

        /** How many sides are FREE somewhere (what 0), REACHED (1), FREE as a whole (2). */
        int countSides(int what) {
            int sidesOfThem = 0;
            for (int row = 0; row < ROWS; row++) {
                for (int point = 0; point < pointsBeside(row); point++) {
                    Side side = sides[row * MOST_POINTS + point];
                    boolean whole = side.fromStart && side.toEnd;
                    if (what == 0 ? side.isFree : what == 1 ? side.lowest != null : whole) {
                        sidesOfThem++;
                    }
                }
            }
            return sidesOfThem;
        }

        int firstSquare() {
            return (int) lowerOf(0, 0).startSquare;
        }

        int lastSquare() {
            return (int) lowerOf(firstEdges - 1, otherEdges).endSquare;
        }

        /** If the leash that was measured is ENOUGH, by WALK or by WEAK. */
        boolean serve(int kind) {
            if (!lowerOf(0, 0).fromStart || !lowerOf(firstEdges - 1, otherEdges).toEnd) {
                return false;
            }
            return kind == WEAK ? isStrolled() : isComeInto(firstEdges - 1, otherEdges - 1);
        }

        boolean isComeInto(int i, int j) {
            return leftOf(i, j).lowest != null || lowerOf(i, j).lowest != null;
        }

        /** If one comes from the first CELL to the last one over FREE sides, whichever way. */
        private boolean isStrolled() {
            long last = bitOf(firstEdges - 1, otherEdges - 1);
            long come = 1;
            long before = 0;
            // Each round but the last one comes into a CELL more.
            for (int round = 0; round <= MOST_EDGES * MOST_EDGES && come != before; round++) {
                before = come;
                for (int i = 0; i < firstEdges; i++) {
                    for (int j = 0; j < otherEdges; j++) {
                        if (i > 0 && leftOf(i, j).isFree) {
                            come = join(come, bitOf(i - 1, j) | bitOf(i, j));
                        }
                        if (j > 0 && lowerOf(i, j).isFree) {
                            come = join(come, bitOf(i, j - 1) | bitOf(i, j));
                        }
                    }
                }
            }
            return (come & last) != 0;
        }

        private static long bitOf(int i, int j) {
            return 1L << i * MOST_EDGES + j;
        }

        private static long join(long come, long neighbours) {
            return (come & neighbours) != 0 ? come | neighbours : come;
        }

        /** Writes THE WALK down, from behind, by a leash that is ENOUGH. */
        void trace() {
            int i = firstEdges - 1;
            int j = otherEdges - 1;
            boolean leftAbove = true;
            traced = 0;
            while (traced < 2 * MOST_POINTS && i >= 0 && j >= 0) {
                firstTrail[traced] = i;
                otherTrail[traced] = j;
                traced++;
                if (i == 0 && j == 0) {
                    return;
                }
                boolean asked = leftAbove ? leftOf(i, j).lowest != null : lowerOf(i, j).lowest == null;
                boolean overLeft = j == 0 || i > 0 && asked;
                i = overLeft ? i - 1 : i;
                j = overLeft ? j : j - 1;
                leftAbove = !overLeft;
            }
        }
    }

    /** All rows of HOPS of two WAYS: tables over POINTS i, j that tell what lies ahead from there. */
    private static final class Jumps {
        private static final int CANNOT = 2147483647;
        private static final int CORNERS = MOST_POINTS * MOST_POINTS;

        private final int[] squares = new int[CORNERS];
        private final int[] needed = new int[CORNERS];
        private final int[] sums = new int[CORNERS];
        private final int[] leastRows = new int[CORNERS];
        private final int[] allRows = new int[CORNERS];
        private int firstLast = 0;
        private int otherLast = 0;
        private int firstAt = 0;
        private int otherAt = 0;

        void lay(Track first, Track other) {
            firstLast = first.count - 1;
            otherLast = other.count - 1;
            for (int i = firstLast; i >= 0; i--) {
                for (int j = otherLast; j >= 0; j--) {
                    int square = first.squareTo(i, other, j);
                    squares[i * MOST_POINTS + j] = square;
                    needed[i * MOST_POINTS + j] = Math.max(square, leastAhead(needed, i, j));
                }
            }
        }

        int leash() {
            return needed[0];
        }

        /** What a table has behind a hop: move 0 of both, 1 of the first WAY's, 2 of the other one's. */
        private int ahead(int[] table, int i, int j, int move) {
            int nextI = move == 2 ? i : i + 1;
            int nextJ = move == 1 ? j : j + 1;
            if (nextI > firstLast || nextJ > otherLast) {
                return CANNOT;
            }
            return table[nextI * MOST_POINTS + nextJ];
        }

        /** The least of what a table has behind a hop; 0 where both are at the last POINT. */
        private int leastAhead(int[] table, int i, int j) {
            if (i == firstLast && j == otherLast) {
                return 0;
            }
            int least = CANNOT;
            for (int move = 0; move < 3; move++) {
                least = Math.min(least, ahead(table, i, j, move));
            }
            return least;
        }

        /** Goes along THE HOPS, at most so many: how many there were. */
        int jump(int most) {
            firstAt = 0;
            otherAt = 0;
            int jumped = 0;
            int bound = Math.min(most, 2 * MOST_POINTS);
            while (jumped < bound && (firstAt < firstLast || otherAt < otherLast)) {
                boolean both = ahead(needed, firstAt, otherAt, 0) <= leash();
                boolean alone = !both && ahead(needed, firstAt, otherAt, 1) <= leash();
                firstAt = both || alone ? firstAt + 1 : firstAt;
                otherAt = alone ? otherAt : otherAt + 1;
                jumped++;
            }
            return jumped;
        }

        void addUp() {
            for (int i = firstLast; i >= 0; i--) {
                for (int j = otherLast; j >= 0; j--) {
                    int at = i * MOST_POINTS + j;
                    boolean ends = i == firstLast && j == otherLast;
                    int least = leastAhead(sums, i, j);
                    sums[at] = squares[at] + least;
                    leastRows[at] = ends ? 1 : countAhead(leastRows, i, j, least);
                    allRows[at] = ends ? 1 : countAhead(allRows, i, j, NONE);
                }
            }
        }

        /** Rows behind the hops from i, j that lead to a SUM of least, or behind all hops (NONE). */
        private int countAhead(int[] table, int i, int j, int least) {
            long rows = 0;
            for (int move = 0; move < 3; move++) {
                int sum = ahead(sums, i, j, move);
                if (sum != CANNOT && (least == NONE || sum == least)) {
                    rows += ahead(table, i, j, move);
                }
            }
            return (int) Math.min(rows, MOST_ROWS);
        }
    }

    /** CRITICALS between two bounds, unlike ones, rising. */
    private static final class Changes {
        /** Both ends, each POINT with each EDGE, each two POINTS with each EDGE. */
        private static final int MOST_CHANGES =
            2 + 2 * MOST_POINTS * MOST_EDGES + MOST_POINTS * MOST_EDGES * MOST_EDGES;

        private final long[] above = new long[MOST_CHANGES];
        private final long[] below = new long[MOST_CHANGES];
        private int count = 0;
        private int floor = 0;
        private int ceiling = 0;

        void collect(Cells cells, int least, int most) {
            count = 0;
            floor = least;
            ceiling = most;
            insert(cells.firstSquare(), 1);
            insert(cells.lastSquare(), 1);
            for (int row = 0; row < Cells.ROWS; row++) {
                int points = cells.pointsBeside(row);
                for (int point = 0; point < points; point++) {
                    Side side = cells.sides[row * MOST_POINTS + point];
                    insert(side.leastAbove(), side.leastBelow());
                    for (int k = point + 1; k < points; k++) {
                        insertMeeting(side, cells.sides[row * MOST_POINTS + k]);
                    }
                }
            }
        }

        /** The SQUARE at the one PLACE of an EDGE that is as far from two POINTS, if there is just one. */
        private void insertMeeting(Side one, Side two) {
            long down = 2 * (two.foot - one.foot);
            long up = two.startSquare - one.startSquare;
            if (down < 0) {
                down = -down;
                up = -up;
            }
            if (down > 0 && up >= 0 && up <= down) {
                long square = (one.startSquare * down - 2 * one.foot * up) * down + one.length * up * up;
                insert(square, down * down);
            }
        }

        private void insert(long n, long d) {
            if (n < floor * d || n > ceiling * d) {
                return;
            }
            int from = 0;
            int to = count;
            // Ten halvings find the place among fewer than 1,024.
            for (int round = 0; round < 10 && from < to; round++) {
                int half = (from + to) / 2;
                if (above[half] * d < n * below[half]) {
                    from = half + 1;
                } else {
                    to = half;
                }
            }
            boolean stands = from < count && above[from] * d == n * below[from];
            if (stands || count >= MOST_CHANGES) {
                return;
            }
            System.arraycopy(above, from, above, from + 1, count - from);
            System.arraycopy(below, from, below, from + 1, count - from);
            above[from] = n;
            below[from] = d;
            count++;
        }

        int countBelow(Fraction fraction) {
            int lower = 0;
            while (lower < count && above[lower] * fraction.below < fraction.above * below[lower]) {
                lower++;
            }
            return lower;
        }
    }

    /** Tries leashes on two WAYS. */
    private static final class Matcher {
        private final Cells cells = new Cells();
        private final Jumps jumps = new Jumps();
        private final Changes changes = new Changes();

        boolean isEnough(Track first, Track other, int kind, int n, int d) {
            if (kind == HOPS) {
                jumps.lay(first, other);
                return (long) jumps.leash() * d <= n;
            }
            cells.lay(first, other);
            cells.measure(n, d);
            return cells.serve(kind);
        }

        void findShortest(Track first, Track other, int kind, Fraction into) {
            jumps.lay(first, other);
            if (kind == HOPS) {
                into.put(jumps.leash(), 1);
                return;
            }
            cells.lay(first, other);
            // No less than both ends need is ENOUGH, and what HOPS need is: others needn't be sorted.
            changes.collect(cells, Math.max(cells.firstSquare(), cells.lastSquare()), jumps.leash());
            int from = 0;
            int to = changes.count - 1;
            for (int round = 0; round < 10 && from < to; round++) {
                int half = (from + to) / 2;
                cells.measure(changes.above[half], changes.below[half]);
                if (cells.serve(kind)) {
                    to = half;
                } else {
                    from = half + 1;
                }
            }
            into.put(changes.above[from], changes.below[from]);
        }
    }
}
