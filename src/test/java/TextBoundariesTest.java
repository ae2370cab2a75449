/** Tape, TEXT, TOKENS and FAULTS: each sentence of the document that names a boundary has a test of its own. */
public final class TextBoundariesTest {
    private static final int NONE = TwoLeash.NONE;
    private static final int LOWEST = Integer.MIN_VALUE;
    private static final int HIGHEST = Integer.MAX_VALUE;
    private static final int BLANKS = 0x20202020;

    private static final String PLAIN = "way a 0 0 1 1;";
    private static final String FOUR = "way a 0 0 1 1;way b 0 0 1 1;way c 0 0 1 1;way d 0 0 1 1;";
    private static final String EIGHT_POINTS = "way a 0 0 1 0 2 0 3 0 4 0 5 0 6 0 7 0";

    private TextBoundariesTest() {
    }

    public static void main(String[] args) {
        tapeHoldsSevenHundred();
        refusedFeedLeavesTheTape();
        feedTellsHowManyTheTapeHas();
        highestByteOfEachIntComesFirst();
        bytesAboveOneHundredAndTwentySeven();
        loadOfANumberThatCannotBe();
        loadBeyondTheTapeLeavesIt();
        loadEmptiesTheTape();
        loadOfFewerBytesThanTheTapeHas();
        loadWithAFaultLeavesAllElse();
        textOfSevenHundredBytes();
        textWithoutWays();
        blanksAreTenAndThirtyTwo();
        wordsHaveOneToEightLetters();
        lettersAreSmallOnes();
        wordsAreUnlikeByEachLetter();
        numbersHaveOneOrTwoDigits();
        digitsAreZeroToNine();
        tokensGoAsLongAsTheyCan();
        numbersAreAtMostEighteen();
        namesAreWordsButWay();
        namesAreUnlike();
        atMostFourWays();
        waysAreNumberedAsTold();
        twoToEightPoints();
        noPointIsLikeTheOneAhead();
        tokensThatCannotStandThere();
        theEndIsToldByTheLength();
        theFirstFaultAlongTheTextIsTold();
        ofOneTokenTheLeastKindIsTold();
        faultAheadOfAnyLoad();
        faultOfTheLatestLoadThatReads();
        faultOfOtherNumbers();
        Checks.end();
    }

    private static TwoLeash fed(String text) {
        TwoLeash x = new TwoLeash();
        for (int[] f : Checks.feeds(text)) {
            x.feed(f[0], f[1], f[2], f[3], f[4]);
        }
        return x;
    }

    private static int blank(TwoLeash x) {
        return x.feed(BLANKS, BLANKS, BLANKS, BLANKS, BLANKS);
    }

    private static void dueWays(String text, int ways) {
        TwoLeash x = fed(text);
        Checks.dueFine("load of " + text, x, x.load(text.length()), ways);
        Checks.due("no fault of " + text, x.fault(0), 0);
        Checks.due("no place of " + text, x.fault(1), NONE);
        Checks.dueFine("ways of " + text, x, x.many(0), ways);
    }

    private static void dueFault(String text, int kind, int place) {
        TwoLeash x = fed(text);
        Checks.dueRefused("load of " + text, x, x.load(text.length()), 9);
        Checks.due("fault of " + text, x.fault(0), kind);
        Checks.due("its place in " + text, x.fault(1), place);
        Checks.dueFine("ways of " + text, x, x.many(0), 0);
    }

    // ---- promise 5

    /** "NONE if there would be more than 700." */
    private static void tapeHoldsSevenHundred() {
        TwoLeash x = new TwoLeash();
        for (int n = 1; n < 35; n++) {
            blank(x);
        }
        Checks.due("the 35th feed fills the tape", blank(x), 700);
        Checks.due("the 36th would be 720", blank(x), NONE);
        Checks.due("nor the 37th", blank(x), NONE);
    }

    /** A feed that gives NONE puts nothing on the tape and takes nothing from it. */
    private static void refusedFeedLeavesTheTape() {
        TwoLeash x = fed(" ".repeat(680) + "way a 0 0 1 18 \n   ;");
        Checks.due("full", x.feed(-1, -1, -1, -1, -1), NONE);
        Checks.dueRefused("not more than 700", x, x.load(701), 1);
        Checks.dueFine("all 700 as they were", x, x.load(700), 1);
        Checks.duePrinted("the last bytes", x, "way a 0 0 1 18;");
        Checks.due("room again", blank(x), 20);
    }

    /** "Twenty bytes come behind those on the tape: how many it has." */
    private static void feedTellsHowManyTheTapeHas() {
        TwoLeash x = new TwoLeash();
        for (int n = 1; n <= 35; n++) {
            Checks.due("feed " + n, blank(x), 20 * n);
        }
        x.load(3);
        Checks.due("an empty tape", blank(x), 20);
    }

    /** "The highest of each int first": each of the twenty stands at its own place. */
    private static void highestByteOfEachIntComesFirst() {
        for (int at = 0; at < 20; at++) {
            StringBuilder text = new StringBuilder(" ".repeat(20));
            text.setCharAt(at, '*');
            dueFault(text.toString(), 1, at);
        }
        TwoLeash x = new TwoLeash();
        x.feed(0x77617920, 0x7A203120, 0x32203320, 0x34203B20, LOWEST);
        Checks.dueRefused("the byte 128 is at 16", x, x.load(20), 9);
        Checks.due("kind", x.fault(0), 1);
        Checks.due("place", x.fault(1), 16);
    }

    /** Bytes are 0 to 255: none above 127 is a letter, a digit, a blank or the sign. */
    private static void bytesAboveOneHundredAndTwentySeven() {
        for (int sign = 128; sign < 256; sign++) {
            dueFault("way a" + (char) sign, 1, 5);
        }
    }

    // ---- promise 6

    /** "1: n below 0, above what the tape has." */
    private static void loadOfANumberThatCannotBe() {
        int[] wrong = {-1, -20, 21, 700, LOWEST, HIGHEST};
        for (int n : wrong) {
            TwoLeash x = fed(PLAIN);
            Checks.dueRefused("load " + n, x, x.load(n), 1);
        }
        TwoLeash y = new TwoLeash();
        Checks.dueRefused("one of an empty tape", y, y.load(1), 1);
        Checks.dueFine("none of an empty tape", y, y.load(0), 0);
    }

    /** "The tape stays." */
    private static void loadBeyondTheTapeLeavesIt() {
        TwoLeash x = fed(PLAIN);
        x.load(21);
        x.load(-1);
        Checks.dueFine("as it was", x, x.load(14), 1);
        Checks.duePrinted("as it was", x, PLAIN);
        TwoLeash y = fed(PLAIN);
        y.load(LOWEST);
        Checks.due("behind the twenty", blank(y), 40);
    }

    /** "Else it is empty then", with a FAULT, too. */
    private static void loadEmptiesTheTape() {
        TwoLeash x = fed(PLAIN);
        x.load(14);
        Checks.dueRefused("empty behind STATUS 0", x, x.load(1), 1);
        TwoLeash y = fed(PLAIN);
        y.load(13);
        Checks.dueRefused("empty behind STATUS 9", y, y.load(1), 1);
        TwoLeash z = fed(PLAIN);
        z.load(0);
        Checks.dueRefused("empty behind no bytes", z, z.load(1), 1);
        Checks.due("behind STATUS 9", blank(y), 20);
    }

    /** "The first n bytes of the tape are a TEXT": what stands behind them is neither read nor kept. */
    private static void loadOfFewerBytesThanTheTapeHas() {
        TwoLeash x = fed(PLAIN + "way b 0 0;");
        Checks.dueFine("the first way alone", x, x.load(14), 1);
        Checks.dueRefused("the rest is gone", x, x.load(10), 1);
        TwoLeash y = fed("way a 0 0 1 18;");
        Checks.dueRefused("cut in a number", y, y.load(13), 9);
        Checks.due("at the end", y.fault(0), 2);
        Checks.due("of n", y.fault(1), 13);
        TwoLeash z = fed("way abcdefghi");
        Checks.dueRefused("cut in a row of letters", z, z.load(12), 9);
        Checks.due("a word of eight, then the end", z.fault(0), 2);
        Checks.due("the end", z.fault(1), 12);
        TwoLeash u = fed("   ");
        Checks.dueFine("just as many as the tape has", u, u.load(20), 0);
    }

    /** "9: all else stays": WAYS, ACTS, OUT and the FRACTION. */
    private static void loadWithAFaultLeavesAllElse() {
        String text = "way a 0 0 4 4;way b 4 0 4 9;";
        TwoLeash x = Checks.loaded(text);
        x.turn(1);
        x.print();
        x.near(1, 1, 0, 0);
        Checks.dueRefused("a fault at the end", x, Checks.load(x, "way z 5 5 6 6;way y 7 7 8 8"), 9);
        Checks.due("top", x.top(), 8);
        Checks.due("bottom", x.bottom(), 1);
        Checks.dueFine("OUT", x, x.out(4), 'a');
        Checks.dueFine("acts", x, x.many(2), 1);
        Checks.duePrinted("ways", x, "way a 0 0 4 4;way b 4 9 4 0;");
        Checks.dueFine("undo", x, x.undo(), 0);
        Checks.duePrinted("ways", x, text);
    }

    // ---- TEXTS and TOKENS

    /** "A TEXT of at most 700 bytes": the 700th counts. */
    private static void textOfSevenHundredBytes() {
        dueWays(PLAIN.substring(0, 13) + " ".repeat(686) + ";", 1);
        dueFault(" ".repeat(699) + ";", 2, 699);
        dueFault("way a 0 0 1 1" + "\n".repeat(687), 2, 700);
        dueFault("z".repeat(700), 1, 0);
        dueFault("9".repeat(700), 1, 0);
        dueFault(";".repeat(700), 2, 0);
    }

    /** "{ } any number of times": a TEXT may have no WAYS at all. */
    private static void textWithoutWays() {
        dueWays("", 0);
        dueWays(" ", 0);
        dueWays("\n", 0);
        dueWays(" \n".repeat(350), 0);
        TwoLeash x = Checks.loaded(FOUR);
        Checks.dueFine("nothing", x, x.load(0), 0);
        Checks.dueFine("no ways", x, x.many(0), 0);
        Checks.dueFine("no points", x, x.many(1), 0);
    }

    /** "Blanks (10, 32)": no other byte is one; none is needed where TOKENS end by themselves. */
    private static void blanksAreTenAndThirtyTwo() {
        dueWays("\n way \n\n a\n0 0\n 1 1 \n;\n ", 1);
        dueWays("way a0 0 1 1;way b0 0 1 1;", 2);
        for (int sign = 0; sign < 128; sign++) {
            boolean known = sign == 10 || sign == 32 || sign == ';' || sign >= '0' && sign <= '9'
                || sign >= 'a' && sign <= 'z';
            if (!known) {
                dueFault(PLAIN + (char) sign, 1, 14);
            }
        }
    }

    /** "WORDS (1 to 8 small letters)", "A longer row of letters is no TOKEN": told at its first one. */
    private static void wordsHaveOneToEightLetters() {
        for (int letters = 1; letters <= 8; letters++) {
            String name = "q".repeat(letters);
            dueWays("way " + name + " 0 0 1 1;", 1);
            TwoLeash x = Checks.loaded("way " + name + " 0 0 1 1;");
            Checks.duePrinted("a name of " + letters, x, "way " + name + " 0 0 1 1;");
        }
        dueFault("way " + "q".repeat(9) + " 0 0 1 1;", 1, 4);
        dueFault("way " + "q".repeat(16) + " 0 0 1 1;", 1, 4);
        dueFault("way wayabcdef 0 0 1 1;", 1, 4);
        dueFault("abcdefway a 0 0 1 1;", 1, 0);
        dueFault("wayaaaaaa", 1, 0);
        dueFault("way a abcdefghi", 1, 6);
    }

    /** "Small letters": a and z are, what stands beside them is not. */
    private static void lettersAreSmallOnes() {
        dueWays("way az 0 0 1 1;way za 0 0 1 1;", 2);
        dueFault("way A 0 0 1 1;", 1, 4);
        dueFault("way Z 0 0 1 1;", 1, 4);
        dueFault("way aZ 0 0 1 1;", 1, 5);
        dueFault("way ` 0 0 1 1;", 1, 4);
        dueFault("way { 0 0 1 1;", 1, 4);
        dueFault("WAY a 0 0 1 1;", 1, 0);
    }

    /** Names of eight letters are unlike if any one of them is. */
    private static void wordsAreUnlikeByEachLetter() {
        for (int at = 0; at < 8; at++) {
            StringBuilder other = new StringBuilder("mmmmmmmm");
            other.setCharAt(at, 'n');
            dueWays("way mmmmmmmm 0 0 1 1;way " + other + " 0 0 1 1;", 2);
        }
        dueWays("way a 0 0 1 1;way aa 0 0 1 1;way aaaaaaa 0 0 1 1;way aaaaaaaa 0 0 1 1;", 4);
        dueFault("way mmmmmmmm 0 0 1 1;way mmmmmmmm", 4, 25);
    }

    /** "NUMBERS (1 or 2 digits)", "A longer row of digits is no TOKEN": told at its first one. */
    private static void numbersHaveOneOrTwoDigits() {
        dueWays("way a 0 00 9 09;", 1);
        TwoLeash x = Checks.loaded("way a 0 00 9 09 18 01;");
        Checks.duePrinted("two digits", x, "way a 0 0 9 9 18 1;");
        dueFault("way a 000 0 1 1;", 1, 6);
        dueFault("way a 0 018 1 1;", 1, 8);
        dueFault("way a 0 0 1 100;", 1, 12);
        dueFault("way a 0 0 1 18446744073709551617;", 1, 12);
        dueFault("way 123", 1, 4);
    }

    /** What stands beside 0 and 9 is no digit. */
    private static void digitsAreZeroToNine() {
        dueFault("way a / 0 1 1;", 1, 6);
        dueFault("way a : 0 1 1;", 1, 6);
        dueFault("way a 1/ 0 1 1;", 1, 7);
        dueFault("way a 1: 0 1 1;", 1, 7);
        dueFault("way a -1 0 1 1;", 1, 6);
        dueFault("way a +1 0 1 1;", 1, 6);
        dueFault("way a 1.5 0 1 1;", 1, 7);
    }

    /** "TOKENS, as long as they go." */
    private static void tokensGoAsLongAsTheyCan() {
        TwoLeash x = Checks.loaded("way ab12 3 4 5;");
        Checks.duePrinted("letters, then digits", x, "way ab 12 3 4 5;");
        dueFault("waya 0 0 1 1;", 2, 0);
        dueFault("way a 0 0 11;", 2, 12);
        dueFault("way a 0 0 1 1b;", 2, 13);
    }

    /** "x, y: 0 to 18 each"; FAULT 3. */
    private static void numbersAreAtMostEighteen() {
        dueWays("way a 0 18 18 0;", 1);
        dueWays("way a 18 18 0 0;", 1);
        dueFault("way a 19 0 1 1;", 3, 6);
        dueFault("way a 0 19 1 1;", 3, 8);
        dueFault("way a 0 0 99 1;", 3, 10);
        dueFault("way a 0 0 1 99;", 3, 12);
    }

    /** "NAMES are WORDS but way." */
    private static void namesAreWordsButWay() {
        dueFault("way way 0 0 1 1;", 2, 4);
        dueFault("way 1 0 0 1 1;", 2, 4);
        dueFault("way ; 0 0 1 1;", 2, 4);
        dueWays("way w 0 0 1 1;way wa 0 0 1 1;way ways 0 0 1 1;way wayway 0 0 1 1;", 4);
    }

    /** "Unlike ones"; FAULT 4. */
    private static void namesAreUnlike() {
        dueFault("way a 0 0 1 1;way a 2 2 3 3;", 4, 18);
        dueFault("way a 0 0 1 1;way b 0 0 1 1;way a", 4, 32);
        dueFault("way a 0 0 1 1;way b 0 0 1 1;way c 0 0 1 1;way c", 4, 46);
        TwoLeash x = Checks.loaded(PLAIN);
        Checks.dueFine("a name of the text ahead is free again", x, Checks.load(x, PLAIN), 1);
    }

    /** "At most 4 WAYS"; FAULT 5 "a WAY (at its word)". */
    private static void atMostFourWays() {
        dueWays(FOUR, 4);
        dueFault(FOUR + "way", 5, 56);
        dueFault(FOUR + " \nway e 0 0 1 1;", 5, 58);
        dueFault(FOUR + "way way", 5, 56);
    }

    /** "Numbered from 0 on as they are told", POINTS likewise. */
    private static void waysAreNumberedAsTold() {
        TwoLeash x = Checks.loaded("way d 1 2 3 4;way a 5 6 7 8;way c 9 10 11 12;way b 13 14 15 16;");
        for (int way = 0; way < 4; way++) {
            Checks.dueFine("x 0 of " + way, x, x.way(way, 10), 4 * way + 1);
            Checks.dueFine("y 0 of " + way, x, x.way(way, 20), 4 * way + 2);
            Checks.dueFine("x 1 of " + way, x, x.way(way, 11), 4 * way + 3);
            Checks.dueFine("y 1 of " + way, x, x.way(way, 21), 4 * way + 4);
        }
    }

    /** "2 to 8 POINTS each"; FAULT 5 "a POINT (at its x)". */
    private static void twoToEightPoints() {
        dueFault("way a;", 2, 5);
        dueFault("way a 0 0;", 2, 9);
        dueWays("way a 0 0 1 1;", 1);
        dueWays(EIGHT_POINTS + ";", 1);
        dueFault(EIGHT_POINTS + " 8 0;", 5, 38);
        dueFault(EIGHT_POINTS + " 8", 5, 38);
        dueFault(EIGHT_POINTS + " 7 0;", 5, 38);
        dueWays(EIGHT_POINTS + ";way b 0 0 1 0 2 0 3 0 4 0 5 0 6 0 7 0;", 2);
    }

    /** "None is like the one ahead of it"; FAULT 6 "at its y". */
    private static void noPointIsLikeTheOneAhead() {
        dueFault("way a 0 0 0 0;", 6, 12);
        dueFault("way a 1 2 3 4 3 4;", 6, 16);
        dueFault("way a 0 5 00 05;", 6, 13);
        dueFault("way a 0 0 1 0 2 0 3 0 4 0 5 0 6 0 6 0;", 6, 36);
        dueWays("way a 3 4 3 5 4 5 3 5;", 1);
        dueWays("way a 4 3 3 4 4 3 3 4;", 1);
        dueWays("way a 0 0 1 1;way b 1 1 0 0;way c 0 0 1 1;", 3);
    }

    // ---- FAULTS

    /** FAULT 2, at each place of a TEXT, by each kind of TOKEN that can't stand there. */
    private static void tokensThatCannotStandThere() {
        dueFault("a", 2, 0);
        dueFault("5", 2, 0);
        dueFault(";", 2, 0);
        dueFault("way a b", 2, 6);
        dueFault("way a way", 2, 6);
        dueFault("way a ;", 2, 6);
        dueFault("way a 0 b", 2, 8);
        dueFault("way a 0 ;", 2, 8);
        dueFault("way a 0 0 b", 2, 10);
        dueFault("way a 0 0 ;", 2, 10);
        dueFault("way a 0 0 1 ;", 2, 12);
        dueFault("way a 0 0 1 b", 2, 12);
        dueFault("way a 0 0 1 1 way b 0 0 1 1;", 2, 14);
        dueFault("way a 0 0 1 1 2;", 2, 15);
        dueFault(PLAIN + ";", 2, 14);
        dueFault(PLAIN + "b", 2, 14);
        dueFault(PLAIN + "0", 2, 14);
        dueFault(EIGHT_POINTS + " b", 2, 38);
    }

    /** "2 (at the end: the text's length)", blanks at the end and all. */
    private static void theEndIsToldByTheLength() {
        String[] ends = {"way", "way a", "way a 0", "way a 0 0", "way a 0 0 1", "way a 0 0 1 1", EIGHT_POINTS};
        for (String text : ends) {
            dueFault(text, 2, text.length());
            dueFault(text + " ", 2, text.length() + 1);
            dueFault("\n " + text + " \n ", 2, text.length() + 5);
            dueFault("way b 0 0 1 1;" + text, 2, text.length() + 14);
        }
    }

    /** "The first one along the text." */
    private static void theFirstFaultAlongTheTextIsTold() {
        dueFault("way a 19 0 1 1; *", 3, 6);
        dueFault("way a 0 0 0 0; *", 6, 12);
        dueFault(PLAIN + "way a 0 0 0 0;", 4, 18);
        dueFault("way a 0 0 1 * 19", 1, 12);
        dueFault("way a 0 0; way a 0 0 1 1;", 2, 9);
        dueFault(EIGHT_POINTS + " 8 19;", 5, 38);
        dueFault(FOUR + "way * ", 5, 56);
    }

    /** "Of one TOKEN the kind that is least." */
    private static void ofOneTokenTheLeastKindIsTold() {
        dueFault(EIGHT_POINTS + " 19 0;", 3, 38);
        dueFault(EIGHT_POINTS + " 190 0;", 1, 38);
        dueFault(EIGHT_POINTS + " abcdefghi", 1, 38);
        dueFault("way a 0 019", 1, 8);
        dueFault(FOUR + "ways", 2, 56);
        dueFault(FOUR + "wayabcdef", 1, 56);
    }

    // ---- promise 7

    /** "NONE ahead of any." */
    private static void faultAheadOfAnyLoad() {
        TwoLeash x = new TwoLeash();
        Checks.due("no load yet", x.fault(0), NONE);
        Checks.due("no load yet", x.fault(1), NONE);
        x.load(1);
        x.load(-1);
        Checks.due("none with STATUS 0 or 9 yet", x.fault(0), NONE);
        Checks.due("none with STATUS 0 or 9 yet", x.fault(1), NONE);
        Checks.due("it has no STATUS", x.status(), 1);
    }

    /** "Of the latest load() with STATUS 0 or 9: the FAULT (0 without one), its place (NONE without)." */
    private static void faultOfTheLatestLoadThatReads() {
        TwoLeash x = new TwoLeash();
        Checks.load(x, "way a 0 19");
        x.load(1);
        Checks.due("of the one with 9", x.fault(0), 3);
        Checks.due("of the one with 9", x.fault(1), 8);
        Checks.load(x, "*");
        Checks.due("a place of 0", x.fault(1), 0);
        Checks.due("another one with 9", x.fault(0), 1);
        Checks.load(x, PLAIN);
        x.load(-1);
        Checks.due("of the one with 0", x.fault(0), 0);
        Checks.due("of the one with 0", x.fault(1), NONE);
        x.move(0, 0, 1, 1);
        Checks.due("others don't count", x.fault(0), 0);
        x.load(0);
        Checks.due("of no bytes", x.fault(0), 0);
    }

    /** "NONE for others", and no STATUS of its own. */
    private static void faultOfOtherNumbers() {
        int[] others = {-1, 2, 3, LOWEST, HIGHEST};
        TwoLeash x = new TwoLeash();
        for (int what : others) {
            Checks.due("ahead of any, " + what, x.fault(what), NONE);
        }
        Checks.load(x, "way a 0 19");
        for (int what : others) {
            Checks.due("with a fault, " + what, x.fault(what), NONE);
        }
        Checks.due("the STATUS of load", x.status(), 9);
        Checks.load(x, PLAIN);
        for (int what : others) {
            Checks.due("without a fault, " + what, x.fault(what), NONE);
        }
        Checks.due("the STATUS of load", x.status(), 0);
    }
}
