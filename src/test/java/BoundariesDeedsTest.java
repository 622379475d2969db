/** Boundary cases of what is done, drawn, undone and kept: promises 7 to 13, 26 and 27, and what 'Terms' says of them. */
public final class BoundariesDeedsTest {
    private static final Due T = new Due();
    private static final int NOT = -2, FULL = -3, NONE = -4;
    private static final int HIGH = Integer.MAX_VALUE;

    public static void main(String[] args) {
        yearsAreBad();
        yearsEachByItself();
        yearsAreFull();
        yearsWithoutKeys();
        nurseAtItsEnds();
        nurseIsNot();
        stirAtItsEnds();
        stirIsNot();
        wedAtItsEnds();
        wedIsNot();
        driftIsBad();
        driftIsFull();
        theDrawWrapsAround();
        driftWithoutCouples();
        driftWhomAndByHowMuch();
        driftPartsAheadOfTheYear();
        driftWedsAnew();
        driftMayBeUndone();
        seedAtItsEnds();
        undoIsNone();
        eightAreKnown();
        undoOfEachDeed();
        undoWhateverWasTold();
        nothingToBeUndone();
        imageOfNothing();
        imageKeepsAll();
        imageButForSheetsAndTape();
        imageOnceMore();
        T.end();
    }

    private static void yearsAreBad() {
        T.says("n YEARS (1 .. 40; each by itself may be UNDONE): who has THE KEYS then (NONE)");
        T.range("years", 1, 40, n -> T.town("p9,p8,p7").years(n));
        LongestWed x = T.town("p9");
        x.years(1);
        T.due("a year", x.count(1), 1);
        x.years(40);
        T.due("40 years more", x.count(1), 41);
        x.years(0);
        x.years(41);
        x.years(-1);
        T.due("no more", x.count(1), 41);
    }

    private static void yearsEachByItself() {
        T.says("each by itself may be UNDONE");
        LongestWed x = T.town("p9~3,p5~9");
        x.years(3);
        T.due("three", x.count(6), 3);
        for (int left = 2; left >= 0; left--) {
            T.due("undone", x.undo(), left);
            T.due("the year", x.count(1), left);
            T.due("tempers", x.of(0, 3) * 100 + x.of(1, 3), (3 + left) * 100 + 9 - left);
        }
        x.years(40);
        T.due("of 40", x.count(6), 8);
    }

    private static void yearsAreFull() {
        T.says("FULL: the YEAR would be above 9999");
        LongestWed x = T.lateTown("p9");
        T.due("the year", x.count(1), 9960);
        T.due("40 more", x.years(40), FULL);
        T.due("still", x.count(1), 9960);
        T.due("39 more", x.years(39), NONE);
        T.due("the last year", x.count(1), 9999);
        T.due("one more", x.years(1), FULL);
        T.bad("ahead of full", x.years(0), x.years(41));
        x.undo();
        T.due("two more", x.years(2), FULL);
        T.due("one more, undone before", x.years(1), NONE);
        T.due("the last year again", x.count(1), 9999);
        T.due("what else is done goes on", x.wed(0), 0);
        T.says("in place of all; YEAR 0");
        Due.tell(x, "p9");
        T.due("in another town", x.years(1), 0);
    }

    private static void yearsWithoutKeys() {
        T.says("who has THE KEYS then (NONE)");
        T.due("no couples", new LongestWed().years(1), NONE);
        T.due("all parted", T.town("p9x,p8x").years(1), NONE);
        T.due("parted in it", T.town("p9~19").years(1), NONE);
        T.due("the next one then", T.town("p9~19,p5,p7").years(1), 2);
        T.due("behind 19 years", T.town("p9").years(19), 0);
        T.due("behind 20 years", T.town("p9").years(20), NONE);
    }

    private static void nurseAtItsEnds() {
        T.says("NURSED by n (1 .. 19): TEMPER then");
        T.range("n", 1, 19, n -> T.town("p9~19").nurse(0, n));
        T.range("couple", 0, 1, couple -> T.town("p9~1,p8~1").nurse(couple, 1));
        T.bad("no couples", new LongestWed().nurse(0, 1));
        T.due("19 by 1", T.town("p9~19").nurse(0, 1), 18);
        T.due("19 by 18", T.town("p9~19").nurse(0, 18), 1);
        T.due("19 by 19", T.town("p9~19").nurse(0, 19), 0);
        T.says("NURSED: a COUPLE's TEMPER is n better (0 at least)");
        T.due("5 by 5", T.town("p9~5").nurse(0, 5), 0);
        T.due("5 by 6", T.town("p9~5").nurse(0, 6), 0);
        LongestWed x = T.town("p9~1");
        T.due("1 by 19", x.nurse(0, 19), 0);
        T.of("1 by 19", x, 0, 0, 9, 40, 0, 0);
    }

    private static void nurseIsNot() {
        T.says("NOT: PARTED, TEMPER is 0");
        LongestWed x = T.town("p9~1,p8~5x,p7~0,p6x");
        T.due("parted", x.nurse(1, 1), NOT);
        T.due("in a temper 0", x.nurse(2, 1), NOT);
        T.due("both", x.nurse(3, 19), NOT);
        T.bad("ahead of it", x.nurse(1, 0), x.nurse(1, 20), x.nurse(2, 0), x.nurse(2, 20), x.nurse(4, 1));
        T.due("in a temper 1", x.nurse(0, 1), 0);
        T.due("in a temper 0 then", x.nurse(0, 1), NOT);
        T.due("one to be undone", x.count(6), 1);
    }

    private static void stirAtItsEnds() {
        T.says("STIRRED by n (1 .. 20): TEMPER then");
        T.range("n", 1, 20, n -> T.town("p9").stir(0, n));
        T.range("couple", 0, 1, couple -> T.town("p9,p8").stir(couple, 1));
        T.bad("no couples", new LongestWed().stir(0, 1));
        T.due("0 by 1", T.town("p9").stir(0, 1), 1);
        T.says("STIRRED: n worse; with 20 or more they are PARTED at once (TEMPER 19 then)");
        int[][] cases = {{0, 19, 0}, {0, 20, 1}, {18, 1, 0}, {19, 1, 1}, {1, 19, 1}, {10, 9, 0}, {10, 10, 1}, {19, 20, 1}};
        for (int[] one : cases) {
            LongestWed x = T.town("p9@50~" + one[0] + ",p5");
            T.due(one[0] + " by " + one[1], x.stir(0, one[1]), 19);
            T.of(one[0] + " by " + one[1], x, 0, 0, 9, 50, 19, one[2]);
            T.due(one[0] + " by " + one[1] + ": keys", x.count(2), one[2]);
            T.due(one[0] + " by " + one[1] + ": the year", x.count(1), 0);
        }
    }

    private static void stirIsNot() {
        T.says("STIRRED by n (1 .. 20): TEMPER then. BAD; NOT: PARTED");
        LongestWed x = T.town("p9~3x,p8~19");
        T.due("parted", x.stir(0, 1), NOT);
        T.due("its temper", x.of(0, 3), 3);
        T.bad("ahead of it", x.stir(0, 0), x.stir(0, 21), x.stir(2, 1));
        x.stir(1, 1);
        T.due("parted by it", x.stir(1, 1), NOT);
        T.due("one to be undone", x.count(6), 1);
    }

    private static void wedAtItsEnds() {
        T.says("WED anew: a COUPLE that is PARTED is TOGETHER, WED since 0 YEARS, OLD by 20, in a TEMPER 0");
        LongestWed x = T.town("b80@99~19x,p5");
        T.due("keys", x.wed(0), 1);
        T.of("wed anew", x, 0, 4, 0, 20, 0, 0);
        T.says("WED anew: who has THE KEYS then");
        T.due("nobody else", T.town("p9x").wed(0), 0);
        T.due("of like ones the first", T.town("p9x,p0").wed(0), 0);
        T.due("of like ones the first, the other", T.town("p0,p9x").wed(1), 0);
        T.due("the others parted", T.town("p9x,p8x").wed(1), 1);
    }

    private static void wedIsNot() {
        T.says("BAD; NOT: TOGETHER");
        T.range("couple", 0, 1, couple -> T.town("p9x,p8x").wed(couple));
        T.bad("no couples", new LongestWed().wed(0));
        LongestWed x = T.town("p9,p8x");
        T.due("together", x.wed(0), NOT);
        T.due("as before", x.of(0, 1), 9);
        x.wed(1);
        T.due("together by it", x.wed(1), NOT);
        T.due("one to be undone", x.count(6), 1);
    }

    private static void driftIsBad() {
        T.says("A DRIFT of n YEARS (1 .. 40; each with what is STIRRED, WED one that may be UNDONE)");
        T.range("drift", 1, 40, n -> T.town("p9,p8").drift(n));
        LongestWed x = T.town("p9");
        x.drift(0);
        x.drift(41);
        T.due("no draw", x.seed(1), 1);
        x.drift(40);
        T.due("40 years", x.count(1), 40);
        T.due("eight to be undone", x.count(6), 8);
        T.says("who has THE KEYS then (NONE)");
        T.due("no couples", new LongestWed().drift(1), NONE);
        T.due("parted in it", T.town("p9~19").drift(1), NONE);
    }

    private static void driftIsFull() {
        T.says("who has THE KEYS then (NONE). BAD; FULL: likewise");
        LongestWed x = T.lateTown("p9");
        T.due("40 more", x.drift(40), FULL);
        T.due("no draw", x.seed(1), 1);
        x.drift(39);
        T.due("the last year", x.count(1), 9999);
        T.due("one more", x.drift(1), FULL);
        T.bad("ahead of full", x.drift(0), x.drift(41));
    }

    private static long next(long draw) {
        return (draw * 1103515245L + 12345) & 0x7fffffffL;
    }

    private static void theDrawWrapsAround() {
        T.says("it becomes the lowest 31 bits of itself times 1103515245 and 12345 more");
        long[][] draws = {{0, 12345}, {1, 1103527590}, {HIGH, 1043980748}, {1L << 30, (1L << 30) + 12345}};
        for (long[] one : draws) {
            LongestWed x = new LongestWed();
            x.seed((int) one[0]);
            x.drift(1);
            T.due("behind " + one[0], x.seed(0), one[1]);
        }
        for (long draw : new long[] {0, 1, HIGH - 1, HIGH}) {
            LongestWed x = new LongestWed();
            x.seed(Due.seedFor(draw));
            x.drift(1);
            T.due("the draw itself", x.seed(0), draw);
        }
        T.says("ahead of each YEAR of a DRIFT");
        LongestWed x = T.town("p9,p8");
        long draw = 1;
        for (int n = 1; n <= 40; n++) {
            x.drift(n % 3 + 1);
            for (int year = 0; year <= n % 3; year++) {
                draw = next(draw);
            }
            T.due("draw behind drift " + n, x.seed((int) draw), draw);
        }
        x.years(3);
        T.due("years draw nothing", x.seed(0), draw);
    }

    private static void driftWithoutCouples() {
        T.says("if there are COUPLES");
        LongestWed x = new LongestWed();
        T.due("a year", x.drift(1), NONE);
        T.due("the year", x.count(1), 1);
        T.due("the draw goes on", x.seed(0), 1103527590);
    }

    /** A draw that hits that one of so many couples by so much; its lowest 7 bits count for nothing. */
    private static int drawOf(int couples, int couple, int by, int low) {
        int high = couple + couples * 3;
        int middle = 0;
        while ((512 * high + middle) % 7 != by) {
            middle++;
        }
        return 65536 * high + 128 * middle + low;
    }

    private static LongestWed drifted(String text, int draw) {
        LongestWed x = T.town(text);
        x.seed(Due.seedFor(draw));
        x.drift(1);
        T.due(text + ": the draw", x.seed(draw), draw);
        return x;
    }

    private static void driftWhomAndByHowMuch() {
        T.says("the one that it is by 65536, left over by how many there are, is TOGETHER, it is STIRRED by it by 128, left over by 7");
        for (int couples = 1; couples <= 7; couples++) {
            String text = "p9~5" + ",p9~5".repeat(couples - 1);
            for (int whom = 0; whom < couples; whom++) {
                for (int by = 0; by < 7; by++) {
                    LongestWed x = drifted(text, drawOf(couples, whom, by, by % 2 * 127));
                    for (int c = 0; c < couples; c++) {
                        T.due(couples + " couples, " + whom + " by " + by + ": temper of " + c, x.of(c, 3),
                            (c == 0 ? 6 : 4) + (c == whom ? by : 0));
                    }
                }
            }
        }
        T.says("What is divided is cut");
        for (long draw : new long[] {65536L * 7 - 1, 65536L * 7, 65536L * 7 + 127, 65536L * 7 + 128, 128L * 7 - 1, 128L * 7, HIGH, 0}) {
            LongestWed x = drifted("p9~5,p9~5,p9~5,p9~5,p9~5,p9~5,p9~5", (int) draw);
            int whom = (int) (draw >> 16) % 7;
            int by = (int) (draw >> 7) % 7;
            T.due("draw " + draw, x.of(whom, 3), (whom == 0 ? 6 : 4) + by);
            T.due("draw " + draw + ": all", x.count(5), 30 + by);
        }
    }

    private static void driftPartsAheadOfTheYear() {
        T.says("STIRRED: n worse; with 20 or more they are PARTED at once (TEMPER 19 then)");
        LongestWed just = drifted("p5~5,p9~14", drawOf(2, 1, 5, 0));
        T.of("19 by it, then the keeper's year", just, 1, 0, 10, 41, 19, 1);
        T.of("the other had no keys", just, 0, 0, 6, 41, 4, 0);
        LongestWed over = drifted("p5~5,p9~14", drawOf(2, 1, 6, 0));
        T.of("20 by it", over, 1, 0, 9, 40, 19, 1);
        T.of("the other had the keys", over, 0, 0, 6, 41, 6, 0);
        LongestWed still = drifted("p9~19,p5", drawOf(2, 1, 0, 0));
        T.of("by 0", still, 1, 0, 6, 41, 0, 0);
        LongestWed by0 = drifted("p9,p5~19", drawOf(2, 1, 0, 127));
        T.of("19 by 0", by0, 1, 0, 6, 41, 18, 0);
    }

    private static void driftWedsAnew() {
        T.says("if it is PARTED, it is WED anew, if it by 128, left over by 7, is 0");
        for (int by = 0; by < 7; by++) {
            LongestWed x = drifted("p9,b70@80~15x", drawOf(2, 1, by, by % 2 * 127));
            if (by == 0) {
                T.of("by 0", x, 1, 4, 1, 21, 0, 0);
            } else {
                T.of("by " + by, x, 1, 4, 70, 80, 15, 1);
            }
            LongestWed other = drifted("p9,b70@80~15x", drawOf(2, 0, by, 0));
            T.of("the other by " + by, other, 1, 4, 70, 80, 15, 1);
        }
        LongestWed alone = drifted("d9x", drawOf(1, 0, 0, 0));
        T.of("alone, with the keys ahead of the year", alone, 0, 1, 1, 21, 3, 0);
    }

    private static void driftMayBeUndone() {
        T.says("each with what is STIRRED, WED one that may be UNDONE");
        for (String text : new String[] {"p9~5,p8~17", "p9~5,p8~17x"}) {
            for (int by = 0; by < 7; by += 6) {
                LongestWed x = T.town(text);
                x.seed(Due.seedFor(drawOf(2, 1, by, 0)));
                String before = Seen.town(x);
                x.drift(1);
                T.due(text + ": one", x.count(6), 1);
                T.due(text + ": undone", x.undo(), 0);
                T.same(text + " undone", Seen.town(x), before);
            }
        }
        LongestWed five = T.town("p9,p8x");
        five.drift(5);
        T.due("five", five.count(6), 5);
    }

    private static void seedAtItsEnds() {
        T.says("THE DRAW becomes v: what it was. BAD: below 0");
        LongestWed x = new LongestWed();
        T.bad("below 0", x.seed(-1), x.seed(Integer.MIN_VALUE));
        T.due("1 at first", x.seed(0), 1);
        T.due("0", x.seed(HIGH), 0);
        T.due("the most", x.seed(1), HIGH);
        T.due("nothing to be undone", x.count(6), 0);
    }

    private static void undoIsNone() {
        T.says("UNDONE: how many more may be. NONE: none is known");
        LongestWed x = T.town("p9");
        T.due("at first", x.undo(), NONE);
        x.years(1);
        T.due("one", x.undo(), 0);
        T.due("no more", x.undo(), NONE);
        x.years(2);
        T.due("of two", x.undo(), 1);
        x.years(1);
        T.due("of two again", x.undo(), 1);
        T.due("the last", x.undo(), 0);
        T.due("none", x.undo(), NONE);
        T.due("year 0", x.count(1), 0);
    }

    private static void eightAreKnown() {
        T.says("the latest YEAR, NURSED, STIRRED, WED anew is as it had not been (8 are known, older ones lost)");
        for (int deeds = 7; deeds <= 20; deeds++) {
            LongestWed x = T.town("p9");
            for (int k = 0; k < deeds; k++) {
                x.years(1);
            }
            int known = Math.min(8, deeds);
            for (int left = known - 1; left >= 0; left--) {
                T.due("of " + deeds, x.undo(), left);
                T.due("the year", x.count(1), deeds - known + left);
            }
            T.due("older ones", x.undo(), NONE);
            T.due("the year stays", x.count(1), deeds - known);
        }
    }

    private static void undoOfEachDeed() {
        T.says("TEMPERS, since when all are WED, how OLD, who is PARTED, the YEAR, THE DRAW are as ahead of it");
        LongestWed x = T.town("p9@98~18,d80@99~3,b7@99~19x");
        String[] before = new String[6];
        for (int deed = 0; deed < 6; deed++) {
            before[deed] = Seen.town(x);
            switch (deed) {
                case 0: x.nurse(0, 19); break;
                case 1: x.stir(1, 1); break;
                case 2: x.wed(2); break;
                case 3: x.years(1); break;
                case 4: x.stir(0, 20); break;
                default: x.drift(1); break;
            }
        }
        for (int deed = 5; deed >= 0; deed--) {
            T.due("undone deed " + deed, x.undo(), deed);
            T.same("deed " + deed + " undone", Seen.town(x), before[deed]);
        }
    }

    private static void undoWhateverWasTold() {
        T.says("THE DRAW are as ahead of it, whatever was told since");
        LongestWed x = T.town("p9,p8x");
        x.seed(5);
        x.years(1);
        x.seed(6);
        x.wed(1);
        x.seed(7);
        x.undo();
        T.due("ahead of the wedding", x.seed(8), 6);
        x.undo();
        T.due("ahead of the year", x.seed(9), 5);
        T.due("none is known", x.undo(), NONE);
        T.due("then it stays", x.seed(1), 9);
    }

    private static void nothingToBeUndone() {
        T.says("a TOWN told, a new COUPLE leave nothing to be UNDONE");
        LongestWed x = T.town("p9");
        x.years(9);
        T.due("a new couple", x.couple(0, 1), 1);
        T.due("how many", x.count(6), 0);
        T.due("none", x.undo(), NONE);
        x.years(2);
        T.due("those behind it", x.undo() * 10 + x.undo(), 10);
        T.due("none ahead of it", x.undo(), NONE);
        T.due("the year", x.count(1), 9);
        x.years(3);
        Due.tell(x, "p1,");
        T.due("a town with a fault leaves them", x.count(6), 3);
        Due.tell(x, "p1,p2");
        T.due("a town told", x.count(6), 0);
        T.due("none in it", x.undo(), NONE);
    }

    private static void imageOfNothing() {
        T.says("All is as it was then: 1. NONE: there is none");
        LongestWed x = new LongestWed();
        T.due("none", x.restore(), NONE);
        T.due("an image", x.image(), 1);
        Due.tell(x, "p9,p8");
        x.seed(4);
        x.years(3);
        T.due("restored", x.restore(), 1);
        T.same("no couples", Seen.town(x), "counts 0 0 -4 -4 0 0 0 draw 1");
        T.bad("no couple", x.of(0, 0));
        T.due("none to be undone", x.undo(), NONE);
        T.due("a couple", x.couple(1, 1), 0);
    }

    private static void imageKeepsAll() {
        T.says("All but SHEETS, THE TAPE is kept as an IMAGE: 1");
        LongestWed x = T.town("p9~3,d8@97~4");
        x.years(11);
        String[] before = new String[8];
        x.image();
        for (int k = 0; k < 3; k++) {
            x.undo();
            before[k] = Seen.town(x);
        }
        x.restore();
        x.drift(13);
        Due.tell(x, "b1,b2,b3");
        T.due("restored behind another town", x.restore(), 1);
        T.due("the year", x.count(1), 11);
        T.due("what may be undone", x.count(6), 8);
        for (int k = 0; k < 3; k++) {
            T.due("undone", x.undo(), 7 - k);
            T.same("undone " + k, Seen.town(x), before[k]);
        }
    }

    private static void imageButForSheetsAndTape() {
        T.says("All but SHEETS, THE TAPE");
        LongestWed x = T.town("p9~3");
        Due.typeAll(x, "p1");
        x.sheet(0, 0, 2);
        x.item(0, 0, 0, 4);
        x.sheet(1, 1, 5);
        x.image();
        x.type('2');
        x.item(0, 0, 0, 9);
        x.drop(1);
        x.sheet(2, 2, 6);
        x.restore();
        T.due("the item put since", x.heard(0, 0, 0, 0, 1, 1), 1 << 8);
        T.due("the sheet dropped since", x.drop(1), -11);
        T.due("the sheet made since", x.drop(2), 6);
        T.due("the tape since", x.type('x'), 4);
        T.due("a town of it", x.town(), 1);
        T.due("wed as told since", x.of(0, 1), 12);
    }

    private static void imageOnceMore() {
        T.says("All is as it was then: 1");
        LongestWed x = T.town("p9");
        x.image();
        x.years(1);
        x.restore();
        x.years(2);
        T.due("restored again", x.restore(), 1);
        T.due("as it was", x.count(1), 0);
        x.years(3);
        x.image();
        x.years(4);
        x.restore();
        T.due("the later image", x.count(1), 3);
        T.due("a new couple leaves the image", x.couple(0, 1), 1);
        T.due("restored", x.restore(), 1);
        T.due("without it", x.count(0), 1);
    }
}
