/** Boundary cases of what is foretold: promises 14 to 25, and what section 2 of 'Terms' says of them. */
public final class BoundariesForetoldTest {
    private static final Due T = new Due();
    private static final int NOT = -2, NONE = -4;
    /** Each keeps the keys for 20 years: the fourth has them behind 60. */
    private static final String SIXTY = "p9@20,p8@20,p7@20,p6@20";
    /** For 7, 14 (from an odd year on), 20 and 20 years: the fifth has them behind 61 only. */
    private static final String SIXTY_ONE = "d9@20,l8@20,p7@20,p6@20,p5@20";

    public static void main(String[] args) {
        keysAtItsEnds();
        aheadAtItsEnds();
        thenAtItsEnds();
        foretoldBehindTheLastYear();
        risesAtItsEnds();
        reignAtItsEnds();
        partsAtItsEnds();
        everAtItsEnds();
        rivalsAtTheirEnds();
        rivalsOfLikeOnes();
        rivalsNone();
        needsAtItsEnds();
        needsIsNoneOrNot();
        sootheAtItsEnds();
        sootheOfLikeOnes();
        sootheNone();
        startAtItsEnds();
        startNone();
        sumAtItsEnds();
        rowsAreBad();
        rowsAtTheirEnds();
        rowsInLowestTerms();
        T.end();
    }

    private static void keysAtItsEnds() {
        T.says("behind n YEARS (0 .. 60) who has THE KEYS (none)");
        T.says("Who has THE KEYS behind n YEARS (NONE). BAD");
        T.range("keys", 0, 60, n -> T.town(SIXTY).keys(n));
        T.says("behind n YEARS (0 .. 60) who has THE KEYS (none)");
        LongestWed x = T.town(SIXTY);
        int[][] want = {{0, 0}, {19, 0}, {20, 1}, {39, 1}, {40, 2}, {59, 2}, {60, 3}};
        for (int[] one : want) {
            T.due("keys(" + one[0] + ")", x.keys(one[0]), one[1]);
        }
        T.due("no couples", new LongestWed().keys(0), NONE);
        T.due("all parted", T.town("p9x").keys(0), NONE);
        T.due("parted in the next year", T.town("p9~19").keys(1), NONE);
        T.due("not yet", T.town("p9~19").keys(0), 0);
        T.due("nobody behind 60", T.town("p9").keys(60), NONE);
    }

    private static void aheadAtItsEnds() {
        T.says("TEMPER behind n YEARS. BAD");
        T.range("n", 0, 60, n -> T.town("p9").ahead(0, n));
        T.range("couple", 0, 1, couple -> T.town("p9,p8").ahead(couple, 0));
        T.bad("no couples", new LongestWed().ahead(0, 0), new LongestWed().ahead(-1, 0));
        LongestWed x = T.town("p9~7,p8@20~3,p7~5x");
        T.due("behind 0", x.ahead(0, 0), 7);
        T.due("behind 60, parted then", x.ahead(0, 60), 19);
        T.due("0 at least", x.ahead(1, 5), 0);
        T.due("parted now, behind 0", x.ahead(2, 0), 5);
        T.due("parted now, behind 60", x.ahead(2, 60), 5);
        T.due("at 60 itself", T.town("p9@20,p8@20,l7@20~19,p6@20~19").ahead(3, 60), 7);
    }

    private static void thenAtItsEnds() {
        T.says("Who is TOGETHER behind n YEARS (a set). BAD");
        T.range("then", 0, 60, n -> T.town("p9,p8").then(n));
        LongestWed x = T.town("p9@20,p8@40,p7@39,p6x");
        T.due("behind 0", x.then(0), 7);
        T.due("behind 20", x.then(20), 6);
        T.due("behind 39", x.then(39), 6);
        T.due("behind 40", x.then(40), 4);
        T.due("behind 59", x.then(59), 4);
        T.due("behind 60", x.then(60), 0);
        T.due("the fourth behind 60", T.town(SIXTY).then(60), 8);
        T.due("no couples", new LongestWed().then(60), 0);
        T.due("all parted", T.town("p9x").then(0), 0);
    }

    private static void foretoldBehindTheLastYear() {
        T.says("FORETOLD from now (nothing is changed)");
        LongestWed x = T.lateTown("p9,p8");
        x.years(39);
        x.wed(0);
        x.wed(1);
        T.due("keys behind year 9999", x.keys(20), 1);
        T.due("parted behind year 9999", x.parts(0), 20);
        T.due("nobody behind year 9999", x.then(60), 0);
        T.due("the year", x.count(1), 9999);
    }

    private static void risesAtItsEnds() {
        T.says("RISES (what 0; NONE), REIGN (1). BAD");
        T.range("couple", 0, 1, couple -> T.town("p9,p8").rises(couple, 0));
        T.range("what", 0, 1, what -> T.town("p9").rises(0, what));
        T.bad("no couples", new LongestWed().rises(0, 0), new LongestWed().rises(0, 1));
        T.says("RISES of a COUPLE: the first of 0 to 60 YEARS behind which it has THE KEYS; none");
        LongestWed sixty = T.town(SIXTY);
        int[] first = {0, 20, 40, 60};
        for (int c = 0; c < first.length; c++) {
            T.due("rises(" + c + ", 0)", sixty.rises(c, 0), first[c]);
        }
        LongestWed more = T.town(SIXTY_ONE);
        int[] later = {0, 7, 21, 41, NONE};
        for (int c = 0; c < later.length; c++) {
            T.due("to 61: rises(" + c + ", 0)", more.rises(c, 0), later[c]);
        }
        T.due("parted", T.town("p9x").rises(0, 0), NONE);
        T.due("gone before", T.town("p9@20,p8@90").rises(1, 0), NONE);
        T.due("behind 1", T.town("p9~19,p8").rises(1, 0), 1);
    }

    private static void reignAtItsEnds() {
        T.says("REIGN: behind how many of 0 to 60 YEARS it has them");
        LongestWed sixty = T.town(SIXTY);
        int[] reign = {20, 20, 20, 1};
        for (int c = 0; c < reign.length; c++) {
            T.due("rises(" + c + ", 1)", sixty.rises(c, 1), reign[c]);
        }
        T.due("to 61", T.town(SIXTY_ONE).rises(4, 1), 0);
        T.due("behind 0 alone", T.town("p9~19").rises(0, 1), 1);
        T.due("parted", T.town("p9x").rises(0, 1), 0);
        T.due("never", T.town("p9@20,p8@90").rises(1, 1), 0);
    }

    private static void partsAtItsEnds() {
        T.says("PARTS; NONE. BAD");
        T.range("couple", 0, 1, couple -> T.town("p9,p8").parts(couple));
        T.bad("no couples", new LongestWed().parts(0));
        T.says("PARTS: in which of the next 60 YEARS (1 on) it is PARTED; none (if it is now, too)");
        T.due("in the first", T.town("p9~19").parts(0), 1);
        T.due("in the first, of old age", T.town("p9@99").parts(0), 1);
        T.due("in the 60th", T.town(SIXTY).parts(2), 60);
        T.due("behind the 60th", T.town(SIXTY).parts(3), NONE);
        T.due("in the 61st", T.town(SIXTY_ONE).parts(3), NONE);
        T.due("of old age in the 60th", T.town("p9@20,p8@20,p7@20,p6@40").parts(3), 60);
        T.due("of old age in the 61st", T.town("p9@20,p8@20,p7@20,p6@39").parts(3), NONE);
        T.due("now", T.town("p9x").parts(0), NONE);
        T.due("now, beside others", T.town("p9,p8~19x").parts(1), NONE);
    }

    private static void everAtItsEnds() {
        T.says("EVER: who has them behind any of 0 to 60 YEARS (a set)");
        T.due("no couples", new LongestWed().ever(), 0);
        T.due("all parted", T.town("p9x,p8x").ever(), 0);
        T.due("behind 0", T.town("p9~19").ever(), 1);
        T.due("behind 60", T.town(SIXTY).ever(), 15);
        T.due("behind 61", T.town(SIXTY_ONE).ever(), 15);
        T.due("gone before", T.town("p9@20,p8@90,p7@20").ever(), 5);
        T.says("EVER (a set)");
        // One is parted by its age each year, the first one first, and the next one has the keys.
        String inTurn = "p50@99,p49@98,p48@97,p47@96,p46@95,p45@94,p44@93";
        T.due("all seven in turn", T.town(inTurn).ever(), 127);
        T.due("all but the last, which is parted", T.town(inTurn + "x").ever(), 63);
        T.due("the last of seven alone", T.town("p9x,p9x,p9x,p9x,p9x,p9x,p1").ever(), 64);
    }

    private static void rivals(String text, int couple, int n, int many, int which) {
        T.due(text + ": rivals(" + couple + ", " + n + ", 0)", T.town(text).rivals(couple, n, 0), many);
        T.due(text + ": rivals(" + couple + ", " + n + ", 1)", T.town(text).rivals(couple, n, 1), which);
    }

    private static void rivalsAtTheirEnds() {
        T.says("RIVALS of a COUPLE, n YEARS (0 .. 40)");
        T.range("n", 0, 40, n -> T.town("p9,p8").rivals(1, n, 0));
        T.range("couple", 0, 1, couple -> T.town("p9,p8").rivals(couple, 0, 0));
        T.says("RIVALS: how many (what 0), which (1); NONE. BAD");
        T.range("what", 0, 1, what -> T.town("p9").rivals(0, 0, what));
        T.bad("no couples", new LongestWed().rivals(0, 0, 0));
        T.says("the fewest others that, PARTED now, let it have THE KEYS behind them");
        rivals("p9,p8", 0, 0, 0, 0);
        rivals("p9,p8", 1, 0, 1, 1);
        rivals("p9,p9", 1, 0, 1, 1);
        rivals("p9,p9", 0, 0, 0, 0);
        rivals("p9x,p8,p7", 2, 0, 1, 2);
        rivals("p0,p1,p1,p1,p1,p1,p1", 0, 0, 6, 126);
        rivals("p9@20,p8@20,p7@20", 2, 40, 0, 0);
        rivals("p9@20,p8@20,p7@20", 2, 39, 1, 1);
        rivals("p9@20,p8@20,p7@20", 2, 19, 2, 3);
    }

    private static void rivalsOfLikeOnes() {
        T.says("of like ones the least set: how many; which; none");
        rivals("p9,p8,p7", 2, 20, 1, 1);
        rivals("p7,p8,p9", 0, 20, 1, 2);
        // Both proud ones (set 3) would do too, and are a lesser set; but they are two.
        rivals("d9,d8,p7,p6", 3, 20, 1, 4);
    }

    private static void rivalsNone() {
        T.says("of like ones the least set: how many; which; none");
        rivals("p9x,p8", 0, 0, NONE, NONE);
        rivals("p9x", 0, 40, NONE, NONE);
        rivals("p9", 0, 19, 0, 0);
        rivals("p9", 0, 20, NONE, NONE);
        rivals("p9,p8@90", 1, 9, 1, 1);
        rivals("p9,p8@90", 1, 10, NONE, NONE);
    }

    private static void needsAtItsEnds() {
        T.says("NURSE for a COUPLE, n YEARS (1 .. 40)");
        T.range("n", 1, 40, n -> T.town("p9").needs(0, n));
        T.range("couple", 0, 1, couple -> T.town("p9,p8").needs(couple, 1));
        T.bad("no couples", new LongestWed().needs(0, 1));
        T.says("the least by which it must be NURSED now (0 .. 19) so that it is TOGETHER behind them; none");
        T.due("by 0", T.town("p9~18").needs(0, 1), 0);
        T.due("by 1", T.town("p9~19").needs(0, 1), 1);
        T.due("by 18", T.town("p9~19").needs(0, 18), 18);
        T.due("by 19", T.town("p9~19").needs(0, 19), 19);
        T.due("in a temper 0", T.town("p9").needs(0, 19), 0);
        T.due("for 40", T.town("p9@20,p8@20,p7@20").needs(2, 40), 0);
        T.due("a brick, below 10 at once", T.town("p9,p8,b7~18").needs(2, 40), 9);
    }

    private static void needsIsNoneOrNot() {
        T.says("NURSE; NONE. BAD; NOT: it is PARTED");
        T.due("none for 20", T.town("p9~19").needs(0, 20), NONE);
        T.due("in a temper 0, none for 20", T.town("p9").needs(0, 20), NONE);
        T.due("of old age", T.town("p9@20,p8@90").needs(1, 10), NONE);
        T.due("of old age, a year before", T.town("p9@20,p8@90").needs(1, 9), 0);
        T.due("for 40", T.town("p9@20,p8@20").needs(1, 40), NONE);
        T.due("parted", T.town("p9x").needs(0, 1), NOT);
        T.bad("ahead of it", T.town("p9x").needs(0, 0), T.town("p9x").needs(0, 41), T.town("p9x").needs(1, 1));
    }

    private static void soothe(String text, int n, int which, int many) {
        T.due(text + ": soothe(" + n + ", 0)", T.town(text).soothe(n, 0), which);
        T.due(text + ": soothe(" + n + ", 1)", T.town(text).soothe(n, 1), many);
    }

    private static void sootheAtItsEnds() {
        T.says("SOOTHE for n YEARS (1 .. 40)");
        T.range("n", 1, 40, n -> T.town("p9").soothe(n, 0));
        T.range("what", 0, 1, what -> T.town("p9").soothe(1, what));
        T.says("the COUPLE, TOGETHER, that, NURSED by 5 now, lets most be TOGETHER behind them");
        soothe("p9~19x,p8,p7", 1, 1, 2);
        soothe("p5,p9~19", 1, 1, 2);
        soothe("p5,p9~19", 5, 1, 2);
        soothe("p5,p9~19", 6, 0, 1);
        soothe("p9@20,p8@20,p7@20", 39, 0, 2);
        soothe("p9@20,p8@20,p7@20", 40, 0, 1);
        T.says("NURSED: a COUPLE's TEMPER is n better (0 at least)");
        soothe("p9~3", 19, 0, 1);
        soothe("p9~3", 20, 0, 0);
    }

    private static void sootheOfLikeOnes() {
        T.says("of like ones the first; how many; none: there is none");
        soothe("p9,p8,p7", 1, 0, 3);
        soothe("p9x,p8,p7", 1, 1, 2);
        soothe("p5@90,p9~17,p8@20~17", 4, 1, 3);
        soothe("p9x,p4@99", 40, 1, 0);
        soothe("p5,p4@99", 40, 0, 0);
    }

    private static void sootheNone() {
        T.says("SOOTHE: which (what 0), how many (1); NONE. BAD");
        soothe("p9x", 1, NONE, NONE);
        soothe("p9x,p8x", 40, NONE, NONE);
        T.due("no couples, which", new LongestWed().soothe(1, 0), NONE);
        T.due("no couples, how many", new LongestWed().soothe(1, 1), NONE);
        T.bad("ahead of it", new LongestWed().soothe(0, 0), new LongestWed().soothe(41, 0), new LongestWed().soothe(1, 2));
    }

    private static void startAtItsEnds() {
        T.says("START; NONE. BAD");
        T.range("start", 0, 60, n -> T.town("p9x").start(n));
        T.says("START for n YEARS (0 .. 60): of those PARTED the one that, WED anew now, has THE KEYS behind n YEARS");
        T.due("behind 0, nobody else", T.town("p9x").start(0), 0);
        T.due("behind 0, of like ones the first", T.town("p9x,p0").start(0), 0);
        T.due("behind 0, of like ones not the first", T.town("p0,p9x").start(0), NONE);
        T.due("behind 0, one wed longer", T.town("p9x,p1").start(0), NONE);
        T.due("behind 59", T.town("p9@20,p8@20,p7@20,p6@80x").start(59), NONE);
        T.due("behind 60", T.town("p9@20,p8@20,p7@20,p6@80x").start(60), 3);
        T.due("behind 19", T.town("p9@99~19x").start(19), 0);
        T.due("behind 20", T.town("p9@99~19x").start(20), NONE);
    }

    private static void startNone() {
        T.says("of several the first; none");
        T.due("of two", T.town("p9,p8x,p7x").start(20), 1);
        T.due("of two, the second alone", T.town("d9x,p8x").start(19), 1);
        T.due("each apart", T.town("p9x,p8x").start(39), NONE);
        T.due("none is parted", T.town("p9,p8").start(20), NONE);
        T.due("none of seven is parted", T.town("p9,p8,p7,p6,p5,p4,p3").start(0), NONE);
        T.due("all seven are parted", T.town("p9x,p9x,p9x,p9x,p9x,p9x,p9x").start(0), 0);
        T.due("the last of seven, one wed longer", T.town("p9,p8,p7,p6,p5,p4,p3x").start(0), NONE);
        T.due("no couples", new LongestWed().start(0), NONE);
        T.bad("ahead of it", new LongestWed().start(-1), new LongestWed().start(61));
    }

    private static void sumAtItsEnds() {
        T.says("SUM. BAD");
        T.range("sum", 1, 40, n -> T.town("p9").sum(n));
        T.says("SUM for n YEARS (1 .. 40): by how much TEMPERS of who has THE KEYS, ahead of each of them, come to together");
        T.due("of 1", T.town("p9~7,p8~9").sum(1), 7);
        T.due("of 2", T.town("p9~7,p8~9").sum(2), 15);
        T.due("of 20", T.town("p9@20,p8@20").sum(20), 190);
        T.due("of 22", T.town("p9@20,p8@20~3").sum(22), 191);
        T.due("of 40", T.town("p9@20,p8@20,p7@20").sum(40), 380);
        T.says("(0, if nobody has)");
        T.due("no couples", new LongestWed().sum(40), 0);
        T.due("all parted", T.town("p9~19x").sum(40), 0);
        T.due("parted in the first", T.town("p9~19").sum(1), 19);
        T.due("nobody behind it", T.town("p9~19").sum(2), 19);
        T.due("nobody to the 40th", T.town("p9~19").sum(40), 19);
    }

    private static void rows(String text, int couple, int c, int above, int below) {
        T.due(text + ": rows(" + couple + ", " + c + ", 0)", T.town(text).rows(couple, c, 0), above);
        T.due(text + ": rows(" + couple + ", " + c + ", 1)", T.town(text).rows(couple, c, 1), below);
    }

    private static void rowsAreBad() {
        T.says("ROWS: a COUPLE has THE KEYS, nobody (couple -1): above (what 0), below (1). BAD: no such one, below -1, too");
        T.range("couple", -1, 1, couple -> T.town("p9,p8").rows(couple, 5, 0));
        T.range("c", 0, 10, c -> T.town("p9").rows(0, c, 0));
        T.range("what", 0, 1, what -> T.town("p9").rows(0, 5, what));
        T.range("nobody, c", 0, 10, c -> T.town("p9").rows(-1, c, 0));
        T.bad("no couples", new LongestWed().rows(0, 5, 0), new LongestWed().rows(0, 5, 1), new LongestWed().rows(-2, 5, 0));
        T.due("no couples, nobody", new LongestWed().rows(-1, 5, 0), 1);
        T.due("no couples, nobody, below", new LongestWed().rows(-1, 5, 1), 1);
    }

    private static void rowsAtTheirEnds() {
        T.says("ROWS by c of 10 (0 .. 10): each COUPLE TOGETHER is STIRRED by 10 now by c of 10, apart");
        rows("p9~10,p8~9", 0, 0, 1, 1);
        rows("p9~10,p8~9", 1, 0, 0, 1);
        rows("p9~10,p8~9", 0, 10, 0, 1);
        rows("p9~10,p8~9", 1, 10, 1, 1);
        rows("p9~9,p8", 0, 10, 1, 1);
        rows("p9~10", 0, 1, 9, 10);
        rows("p9~19", 0, 9, 1, 10);
        rows("p9~19,p8", 1, 1, 1, 10);
        rows("p9~10x,p8~10", 0, 0, 0, 1);
        rows("p9~10x,p8~10", 1, 3, 7, 10);
        rows("p9~10,p9~10", 1, 1, 9, 100);
        T.says("how likely a COUPLE has THE KEYS then; how likely nobody does");
        rows("p9~10", -1, 0, 0, 1);
        rows("p9~10", -1, 1, 1, 10);
        rows("p9~10", -1, 10, 1, 1);
        rows("p9~9", -1, 10, 0, 1);
        rows("p9~9,p8~19", -1, 9, 0, 1);
        rows("p9~19,p8~10,p7x", -1, 1, 1, 100);
        rows("p9x", -1, 0, 1, 1);
    }

    private static void rowsInLowestTerms() {
        T.says("a fraction in lowest terms");
        rows("p9~10", 0, 5, 1, 2);
        rows("p9~10", 0, 2, 4, 5);
        rows("p9~10", -1, 4, 2, 5);
        rows("p9~10,p9~10", 1, 5, 1, 4);
        String seven = "p7~10,p6~10,p5~10,p4~10,p3~10,p2~10,p1~10";
        rows(seven, -1, 1, 1, 10000000);
        rows(seven, -1, 9, 4782969, 10000000);
        rows(seven, 6, 9, 531441, 10000000);
        rows(seven, -1, 5, 1, 128);
        rows(seven, -1, 8, 16384, 78125);
    }
}
