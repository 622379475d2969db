/** Promise by promise: ordinary inputs, edges, wrong inputs, with answers worked out by hand. */
public final class PromisesTest {
    private static final Due T = new Due();
    private static final int LOW = Integer.MIN_VALUE;
    private static final int HIGH = Integer.MAX_VALUE;

    public static void main(String[] args) {
        constants();
        promise1New();
        promise2Couple();
        promise2CoupleForgets();
        promise3Of();
        promise3OfByKind();
        promise4Type();
        promise5Town();
        promise5Faults();
        promise6Count();
        promise7Years();
        promise7YearsFull();
        promise7YearsByKind();
        promise8Nurse();
        promise9Stir();
        promise10Wed();
        promise11Drift();
        promise12Undo();
        promise13Seed();
        promise14Keys();
        promise15Ahead();
        promise16Then();
        promise17Rises();
        promise18Parts();
        promise19Ever();
        promise20Rivals();
        promise21Needs();
        promise22Soothe();
        promise23Start();
        promise24Sum();
        promise25Rows();
        promise26And27Image();
        promise28Heard();
        promise29Film();
        promise30Sheet();
        promise31Drop();
        promise32Item();
        promise33Copy();
        T.end();
    }

    private static void constants() {
        T.due("BAD", LongestWed.BAD, -1);
        T.due("NOT", LongestWed.NOT, -2);
        T.due("FULL", LongestWed.FULL, -3);
        T.due("NONE", LongestWed.NONE, -4);
        T.due("NULL", LongestWed.NULL, -11);
        T.due("CAST", LongestWed.CAST, -12);
        T.due("INDEX", LongestWed.INDEX, -13);
        T.due("SIZE", LongestWed.SIZE, -14);
    }

    private static void promise1New() {
        LongestWed x = new LongestWed();
        T.due("1: couples", x.count(0), 0);
        T.due("1: year", x.count(1), 0);
        T.due("1: keys", x.count(2), -4);
        T.due("1: second", x.count(3), -4);
        T.due("1: together", x.count(4), 0);
        T.due("1: tempers", x.count(5), 0);
        T.due("1: undone", x.count(6), 0);
        T.due("1: no image", x.restore(), -4);
        T.due("1: the draw", x.seed(0), 1);
        T.due("1: sheet 0 holds nothing", x.drop(0), -11);
        T.due("1: sheet 3 holds nothing", x.drop(3), -11);
        T.due("1: the tape is empty", x.type('p'), 1);
        T.due("1: no couple", x.of(0, 0), -1);
    }

    private static void promise2Couple() {
        LongestWed x = new LongestWed();
        T.bad("2: couple", x.couple(-1, 0), x.couple(5, 0), x.couple(0, -1), x.couple(0, 81), x.couple(LOW, HIGH));
        T.due("2: first", x.couple(4, 80), 0);
        T.due("2: kind", x.of(0, 0), 4);
        T.due("2: wed", x.of(0, 1), 80);
        T.due("2: old", x.of(0, 2), 40);
        T.due("2: temper", x.of(0, 3), 0);
        T.due("2: together", x.of(0, 4), 0);
        for (int c = 1; c < 7; c++) {
            T.due("2: number", x.couple(0, 0), c);
        }
        T.due("2: full", x.couple(0, 0), -3);
        T.bad("2: bad ahead of full", x.couple(5, 0));
        T.due("2: seven", x.count(0), 7);
        x.years(2);
        T.due("2: still full", x.couple(0, 0), -3);
        T.due("2: full leaves what may be undone", x.count(6), 2);
    }

    private static void promise2CoupleForgets() {
        LongestWed x = T.town("p5");
        x.years(3);
        x.couple(9, 9);
        T.due("2: a refused couple leaves what may be undone", x.count(6), 3);
        x.couple(1, 9);
        T.due("2: a new couple leaves nothing to be undone", x.count(6), 0);
        T.due("2: the year stays", x.count(1), 3);
    }

    private static void promise3Of() {
        LongestWed x = T.town("s33@71~8,l7x");
        int[] first = {2, 33, 71, 8, 0, 11};
        int[] next = {3, 7, 40, 0, 1, 10};
        for (int what = 0; what < 6; what++) {
            T.due("3: of(0, " + what + ")", x.of(0, what), first[what]);
            T.due("3: of(1, " + what + ")", x.of(1, what), next[what]);
        }
        T.bad("3: of", x.of(-1, 0), x.of(2, 0), x.of(0, -1), x.of(0, 6), x.of(HIGH, 0), x.of(LOW, 0));
    }

    /** By how much temper is worse, and 10: keeper, second, another. */
    private static void promise3OfByKind() {
        String[] texts = {"p9", "d9", "s9", "l9", "b9", "b9~9", "b9~10"};
        int[] keeperWorse = {11, 13, 11, 13, 11, 11, 14};
        int[] secondWorse = {9, 9, 7, 9, 7, 7, 10};
        int[] otherWorse = {9, 9, 9, 9, 9, 9, 12};
        for (int k = 0; k < texts.length; k++) {
            T.due("3: keeper " + texts[k], T.town(texts[k]).of(0, 5), keeperWorse[k]);
            T.due("3: second " + texts[k], T.town("p10," + texts[k]).of(1, 5), secondWorse[k]);
            T.due("3: other " + texts[k], T.town("p10,p10," + texts[k]).of(2, 5), otherWorse[k]);
        }
        LongestWed odd = T.town("l9,l8");
        odd.years(1);
        T.due("3: silent in an odd year, keeper", odd.of(0, 5), 10);
        T.due("3: silent in an odd year, second", odd.of(1, 5), 10);
        T.due("3: parted", T.town("d9x").of(0, 5), 10);
    }

    private static void promise4Type() {
        LongestWed x = new LongestWed();
        T.bad("4: type", x.type(31), x.type(127), x.type(-1), x.type(HIGH), x.type(LOW));
        T.due("4: a blank", x.type(32), 1);
        T.due("4: the last sign", x.type(126), 2);
        for (int k = 3; k <= 80; k++) {
            T.due("4: how many", x.type(' '), k);
        }
        T.due("4: full", x.type(' '), -3);
        T.bad("4: bad ahead of full", x.type(31));
        T.due("4: what was typed counts", x.town(), -21);
        T.due("4: empty again", x.type('p'), 1);
    }

    private static void promise5Town() {
        LongestWed x = T.town("p0,d80@20~19x,s 1 @ 99,l2~0,b03 x , p4@50x,p5~7  ");
        int[][] want = {{0, 0, 40, 0, 0}, {1, 80, 20, 19, 1}, {2, 1, 99, 0, 0}, {3, 2, 40, 0, 0},
            {4, 3, 40, 0, 1}, {0, 4, 50, 0, 1}, {0, 5, 40, 7, 0}};
        T.due("5: couples", x.count(0), want.length);
        for (int c = 0; c < want.length; c++) {
            for (int what = 0; what < 5; what++) {
                T.due("5: of(" + c + ", " + what + ")", x.of(c, what), want[c][what]);
            }
        }
        x.keys(9);
        x.seed(77);
        x.years(4);
        x.image();
        T.due("5: a town anew", Due.tell(x, "b7"), 1);
        T.due("5: in place of all", x.count(4), 1);
        T.due("5: year 0", x.count(1), 0);
        T.due("5: nothing to be undone", x.undo(), -4);
        T.due("5: the draw stays", x.seed(77), 77);
        T.due("5: the image stays", x.restore(), 1);
        T.due("5: as it was", x.count(1), 4);
    }

    private static void promise5Faults() {
        String[] texts = {"", "   ", "x", " x", "p", "p ", "P1", "p81", "p 81", "p800", "p080", "p8 0", "p810",
            "p1@", "p1@19", "p1@9", "p1@9 9", "p1@100", "p1@200", "p1@020", "p1~20", "p1~", "p1~190", "p1~019",
            "p1~5@30", "p1x@30", "p1x~3", "p1xx", "p1@20@20", "p1,", "p1, ", "p1,,p1", ",p1", "p1;p1", "p-1", "p1p1",
            "p1,p1,p1,p1,p1,p1,p1,p1", "p1,p1,p1,p1,p1,p1,p1,", "p1,p1,p1,p1,p1,p1,p1 x ,p", "p@30", "p1 ~ 1 9"};
        int[] places = {0, 3, 0, 1, 1, 2, 0, 1, 2, 3, 3, 3, 1,
            3, 3, 3, 3, 3, 5, 3, 3, 3, 5, 5,
            4, 3, 3, 3, 5, 3, 4, 3, 0, 2, 1, 2,
            20, 20, 23, 1, 7};
        for (int k = 0; k < texts.length; k++) {
            LongestWed x = T.town("d9~3,p4");
            x.years(2);
            T.due("5: the fault of \"" + texts[k] + "\"", Due.tell(x, texts[k]), -20 - places[k]);
            T.due("5: all else stays", x.count(0) * 100 + x.count(1) * 10 + x.count(6), 222);
            T.due("5: all else stays, tempers", x.of(0, 3), 9);
            T.due("5: the tape is empty", x.type('p'), 1);
        }
    }

    private static void promise6Count() {
        LongestWed x = T.town("p5~3,d9~4,s9~5,l20~6x,b3~7x");
        x.stir(0, 1);
        int[] want = {5, 0, 1, 2, 7, 13, 1};
        for (int what = 0; what < want.length; what++) {
            T.due("6: count(" + what + ")", x.count(what), want[what]);
        }
        T.bad("6: count", x.count(-1), x.count(7), x.count(HIGH), x.count(LOW));
        LongestWed alone = T.town("p5,p6x");
        T.due("6: no second", alone.count(3), -4);
        LongestWed none = T.town("p5x");
        T.due("6: no keys", none.count(2), -4);
        T.due("6: no second either", none.count(3), -4);
        T.due("6: second behind the keeper in number", T.town("p5,p9").count(3), 0);
    }

    private static void promise7Years() {
        LongestWed x = T.town("p9~3,p5~0,p1@98~4,p2x");
        T.bad("7: years", x.years(0), x.years(41), x.years(-1), x.years(HIGH), x.years(LOW));
        T.due("7: nothing was done", x.count(1) + x.count(6), 0);
        T.due("7: a year", x.years(1), 0);
        int[] tempers = {4, 0, 3, 0};
        int[] wed = {10, 6, 2, 2};
        int[] old = {41, 41, 99, 40};
        for (int c = 0; c < 4; c++) {
            T.due("7: temper", x.of(c, 3), tempers[c]);
            T.due("7: wed", x.of(c, 1), wed[c]);
            T.due("7: old", x.of(c, 2), old[c]);
        }
        T.due("7: the next year", x.count(1), 1);
        T.due("7: another", x.years(1), 0);
        T.due("7: of old age", x.of(2, 4), 1);
        T.due("7: old by 99 at most", x.of(2, 2), 99);
        T.due("7: wed once more all the same", x.of(2, 1), 3);
        T.due("7: in a better temper all the same", x.of(2, 3), 2);
        T.due("7: each may be undone", x.count(6), 2);
        LongestWed old99 = T.town("p80,p70@99");
        T.due("7: keys pass on", old99.years(20), -4);
        T.due("7: wed 99 at most", old99.of(0, 1), 99);
        T.due("7: by rows", old99.of(0, 3), 19);
        T.due("7: old by 60", old99.of(0, 2), 60);
        T.due("7: nobody together", T.town("p5x").years(40), -4);
        T.due("7: no couples", new LongestWed().years(1), -4);
        T.due("7: keys go to the next", T.town("p9~19,p5,p7").years(1), 2);
    }

    private static void promise7YearsFull() {
        LongestWed x = new LongestWed();
        for (int k = 0; k < 249; k++) {
            x.years(40);
        }
        T.due("7: a year below", x.years(38), -4);
        T.due("7: 9998", x.count(1), 9998);
        T.due("7: full", x.years(2), -3);
        T.due("11: full", x.drift(2), -3);
        T.due("7: full changes nothing", x.count(1), 9998);
        T.due("11: full draws nothing", x.seed(1), 1);
        x.image();
        T.due("11: the last year", x.drift(1), -4);
        x.restore();
        T.due("7: the last year", x.years(1), -4);
        T.due("7: 9999", x.count(1), 9999);
        T.due("7: full at the end", x.years(1), -3);
        T.bad("7: bad ahead of full", x.years(41), x.drift(41));
        T.due("7: foretold goes on", x.keys(60), -4);
    }

    /** Four years of each kind, with the keys, as the second, as another. */
    private static void promise7YearsByKind() {
        String[] letters = {"p", "d", "s", "l", "b"};
        int[][] keeper = {{9, 10, 11, 12}, {11, 14, 17, 19}, {9, 10, 11, 12}, {11, 11, 14, 14}, {9, 10, 14, 18}};
        int[][] second = {{7, 6, 5, 4}, {7, 6, 5, 4}, {5, 2, 0, 0}, {7, 7, 6, 6}, {5, 2, 0, 0}};
        int[][] other = {{7, 6, 5, 4}, {7, 6, 5, 4}, {7, 6, 5, 4}, {7, 7, 6, 6}, {7, 6, 5, 4}};
        for (int k = 0; k < letters.length; k++) {
            LongestWed first = T.town(letters[k] + "9~8");
            LongestWed next = T.town("p20," + letters[k] + "9~8");
            LongestWed third = T.town("p20,p20," + letters[k] + "9~8");
            for (int y = 0; y < 4; y++) {
                first.years(1);
                next.years(1);
                third.years(1);
                T.due("7: " + letters[k] + " keeper, year " + y, first.of(0, 3), keeper[k][y]);
                T.due("7: " + letters[k] + " second, year " + y, next.of(1, 3), second[k][y]);
                T.due("7: " + letters[k] + " other, year " + y, third.of(2, 3), other[k][y]);
            }
            T.due("7: " + letters[k] + " parted", first.of(0, 4), k == 1 ? 1 : 0);
        }
    }

    private static void promise8Nurse() {
        LongestWed x = T.town("p9~7,p5~3x,p4");
        T.bad("8: nurse", x.nurse(-1, 1), x.nurse(3, 1), x.nurse(0, 0), x.nurse(0, 20), x.nurse(1, 0), x.nurse(0, LOW));
        T.due("8: parted", x.nurse(1, 1), -2);
        T.due("8: in temper 0", x.nurse(2, 1), -2);
        T.due("8: nothing to be undone yet", x.count(6), 0);
        T.due("8: by 3", x.nurse(0, 3), 4);
        T.due("8: temper then", x.of(0, 3), 4);
        T.due("8: by 19", x.nurse(0, 19), 0);
        T.due("8: not any more", x.nurse(0, 1), -2);
        T.due("8: two to be undone", x.count(6), 2);
    }

    private static void promise9Stir() {
        LongestWed x = T.town("p9~7,p5~3x,p4");
        T.bad("9: stir", x.stir(-1, 1), x.stir(3, 1), x.stir(0, 0), x.stir(0, 21), x.stir(1, 0), x.stir(0, HIGH));
        T.due("9: parted", x.stir(1, 1), -2);
        T.due("9: by 12", x.stir(0, 12), 19);
        T.due("9: together", x.of(0, 4), 0);
        T.due("9: by 1", x.stir(0, 1), 19);
        T.due("9: parted at once", x.of(0, 4), 1);
        T.due("9: since as ever", x.of(0, 1), 9);
        T.due("9: by 20", x.stir(2, 20), 19);
        T.due("9: nobody", x.count(4), 0);
        T.due("9: three to be undone", x.count(6), 3);
    }

    private static void promise10Wed() {
        LongestWed x = T.town("p9@70~7x,p5~3,p1x");
        T.bad("10: wed", x.wed(-1), x.wed(3), x.wed(HIGH), x.wed(LOW));
        T.due("10: together", x.wed(1), -2);
        T.due("10: anew", x.wed(0), 1);
        int[] want = {0, 0, 20, 0, 0};
        for (int what = 0; what < 5; what++) {
            T.due("10: of(0, " + what + ")", x.of(0, what), want[what]);
        }
        T.due("10: one to be undone", x.count(6), 1);
        x.stir(1, 20);
        T.due("10: of like ones the first", x.wed(2), 0);
    }

    /** From draw 1 on: 1103527590, 377401575, 662824084, 1147902781, 2035015474, .. */
    private static void promise11Drift() {
        LongestWed x = T.town("p9,p5,p1");
        T.bad("11: drift", x.drift(0), x.drift(41), x.drift(-1), x.drift(HIGH), x.drift(LOW));
        // 1103527590 / 65536 = 16838, left over by 3: 2; / 128 = 8621309, left over by 7: 4.
        T.due("11: a year", x.drift(1), 0);
        T.due("11: stirred by 4, then 1 better", x.of(2, 3), 3);
        T.due("11: 1 worse", x.of(0, 3), 1);
        T.due("11: the draw", x.seed(1), 1103527590);
        T.due("11: one to be undone", x.count(6), 1);
        // 377401575 / 65536 = 5758, left over by 3: 1; / 128 = 2948449, left over by 7: 0.
        x = T.town("p9,p5x,p1");
        x.seed(1103527590);
        T.due("11: wed anew", x.drift(1), 0);
        T.due("11: together", x.count(4), 7);
        T.due("11: a year old", x.of(1, 2) * 100 + x.of(1, 1), 2101);
        // 1103527590 with two couples: the first, by 4.
        x = T.town("p9x,p5");
        T.due("11: not wed anew by 4", x.drift(1), 1);
        T.due("11: still parted", x.count(4), 2);
        x = T.town("p9~16,p5");
        T.due("11: stirred apart ahead of the year", x.drift(1), 1);
        T.due("11: so the other had the keys in it", x.of(1, 3), 1);
        T.due("11: temper 19", x.of(0, 3), 19);
        T.due("11: not wed longer", x.of(0, 1), 9);
        LongestWed one = T.town("p9");
        T.due("11: the only couple", one.drift(1), 0);
        T.due("11: stirred by 4, then 1 worse", one.of(0, 3), 5);
        driftWhom();
        LongestWed none = new LongestWed();
        T.due("11: without couples", none.drift(3), -4);
        T.due("11: the draw goes on", none.seed(5), 662824084);
        T.due("11: three to be undone", none.count(6), 3);
        none.seed(HIGH);
        none.drift(1);
        T.due("11: 31 bits", none.seed(0), (HIGH * 1103515245L + 12345) & 0x7fffffffL);
    }

    /** Draws whose number by 65536 is just that, or just below the next: who is stirred tells which it was. */
    private static void driftWhom() {
        long[] draws = {65536L * 20000, 65536L * 20001 - 1, 65536L * 30001, 65536L * 30002 - 1};
        for (long draw : draws) {
            LongestWed x = T.town("p9~5,p9~5,p9~5,p9~5,p9~5,p9~5,p9~5");
            x.seed(Due.seedFor(draw));
            x.drift(1);
            int whom = (int) (draw / 65536 % 7);
            int by = (int) (draw / 128 % 7);
            for (int c = 0; c < 7; c++) {
                T.due("11: couple " + c + " by the draw " + draw, x.of(c, 3), (c == 0 ? 6 : 4) + (c == whom ? by : 0));
            }
            T.due("11: the draw is", x.seed(0), draw);
        }
    }

    private static void promise12Undo() {
        LongestWed x = T.town("p9~18,d5~3,p1x");
        T.due("12: none is known", x.undo(), -4);
        x.years(2);
        x.nurse(1, 1);
        x.seed(9);
        x.stir(1, 20);
        x.seed(11);
        x.wed(2);
        x.drift(1);
        x.seed(12);
        T.due("12: six", x.count(6), 6);
        T.due("12: the drift", x.undo(), 5);
        T.due("12: the draw as ahead of it", x.seed(11), 11);
        T.due("12: the wedding", x.count(4), 4);
        T.due("12: undone", x.undo(), 4);
        T.due("12: nobody", x.count(4), 0);
        T.due("12: wed since, old", x.of(2, 1) * 100 + x.of(2, 2), 140);
        T.due("12: the stirring", x.undo(), 3);
        T.due("12: the draw of then", x.seed(3), 9);
        T.due("12: temper", x.of(1, 3), 0);
        T.due("12: the nursing", x.undo(), 2);
        T.due("12: temper ahead of it", x.of(1, 3), 1);
        T.due("12: the draw ahead of it", x.seed(4), 1);
        T.due("12: a year", x.undo(), 1);
        T.due("12: it was year 1", x.count(1), 1);
        T.due("12: the first year", x.undo(), 0);
        T.due("12: all as at first", x.of(0, 3) * 100 + x.of(0, 1), 1809);
        T.due("12: old as at first", x.of(0, 2), 40);
        T.due("12: no more", x.undo(), -4);
        x.years(9);
        T.due("12: eight are known", x.count(6), 8);
        for (int left = 7; left >= 0; left--) {
            T.due("12: one more", x.undo(), left);
        }
        T.due("12: the oldest is lost", x.count(1), 1);
        T.due("12: none left", x.undo(), -4);
    }

    private static void promise13Seed() {
        LongestWed x = new LongestWed();
        T.bad("13: seed", x.seed(-1), x.seed(LOW));
        T.due("13: 1 at first", x.seed(HIGH), 1);
        T.due("13: what it was", x.seed(0), HIGH);
        T.due("13: 0", x.seed(7), 0);
        T.due("13: nothing to be undone", x.count(6), 0);
    }

    private static void promise14Keys() {
        LongestWed x = T.town("p9~18,d5,p3");
        T.bad("14: keys", x.keys(-1), x.keys(61), x.keys(HIGH), x.keys(LOW));
        int[] behind = {0, 1, 2, 8, 9, 28, 29};
        int[] want = {0, 0, 1, 1, 2, 2, -4};
        for (int k = 0; k < behind.length; k++) {
            T.due("14: keys(" + behind[k] + ")", x.keys(behind[k]), want[k]);
        }
        T.due("14: none behind 60", x.keys(60), -4);
        T.due("14: nothing is changed", x.count(1) * 100 + x.count(6) * 10 + x.count(2), 0);
        T.due("14: tempers neither", x.count(5), 18);
    }

    private static void promise15Ahead() {
        LongestWed x = T.town("p9~18,d5~4,p3~9x");
        T.bad("15: ahead", x.ahead(-1, 0), x.ahead(3, 0), x.ahead(0, -1), x.ahead(0, 61), x.ahead(HIGH, HIGH));
        int[] want = {4, 3, 2, 5, 8};
        for (int n = 0; n < want.length; n++) {
            T.due("15: ahead(1, " + n + ")", x.ahead(1, n), want[n]);
            T.due("15: ahead of the keeper", x.ahead(0, n), Math.min(19, 18 + n));
        }
        T.due("15: parted", x.ahead(2, 60), 9);
        T.due("15: parted then", x.ahead(1, 60), 19);
        T.due("15: nothing is changed", x.of(1, 3), 4);
    }

    private static void promise16Then() {
        LongestWed x = T.town("p9~18,d5~4,p3~9x,p1@97");
        T.bad("16: then", x.then(-1), x.then(61), x.then(HIGH), x.then(LOW));
        int[] want = {11, 11, 10, 2};
        for (int n = 0; n < want.length; n++) {
            T.due("16: then(" + n + ")", x.then(n), want[n]);
        }
        T.due("16: nobody", x.then(60), 0);
        T.due("16: nothing is changed", x.count(4), 11);
    }

    private static void promise17Rises() {
        LongestWed x = T.town("p9~18,d5,p3,p20x,s1@50");
        T.bad("17: rises", x.rises(-1, 0), x.rises(5, 0), x.rises(0, -1), x.rises(0, 2), x.rises(LOW, 1));
        int[] first = {0, 2, 9, -4, 29};
        int[] reign = {2, 7, 20, 0, 20};
        for (int c = 0; c < first.length; c++) {
            T.due("17: rises of " + c, x.rises(c, 0), first[c]);
            T.due("17: reign of " + c, x.rises(c, 1), reign[c]);
        }
        // The ninth to follow: parted at 0, 20, 40, the fourth has the keys behind 60 years alone.
        LongestWed last = T.town("p9,p8,p7,p6@20");
        T.due("17: behind 60", last.rises(3, 0), 60);
        T.due("17: once", last.rises(3, 1), 1);
    }

    private static void promise18Parts() {
        LongestWed x = T.town("p9~19,d5@98,p3,p20x,p0@39,p0@40");
        T.bad("18: parts", x.parts(-1), x.parts(6), x.parts(HIGH), x.parts(LOW));
        int[] want = {1, 2, 22, -4, 42, 60};
        for (int c = 0; c < want.length; c++) {
            T.due("18: parts of " + c, x.parts(c), want[c]);
        }
        T.due("18: not within 60", T.town("p9,p8,p7,p6@39").parts(3), -4);
        T.due("18: by the 60th", T.town("p9,p8,p7,p6@40").parts(3), 60);
        T.due("18: by the 60th, by temper", T.town("p9,p8,p7").parts(2), 60);
        T.due("18: from now again", x.parts(0), 1);
        T.due("18: nothing is changed", x.count(1), 0);
    }

    private static void promise19Ever() {
        T.due("19: none", new LongestWed().ever(), 0);
        T.due("19: all but parted and old ones", T.town("p9~18,d5,p3,p20x,s1@95").ever(), 7);
        T.due("19: behind 60 too", T.town("p9,p8,p7,p6@20").ever(), 15);
        T.due("19: not behind 61", T.town("p9,p8,p7,p6@20,p5@20").ever(), 15);
        LongestWed again = T.town("p9,p8,p7@60");
        again.keys(60);
        T.due("19: from now", again.ever(), 3);
        T.due("19: from now again", again.ever(), 3);
    }

    private static void promise20Rivals() {
        LongestWed x = T.town("p9,p9,p8,p9,p30x");
        T.bad("20: rivals", x.rivals(-1, 0, 0), x.rivals(5, 0, 0), x.rivals(0, -1, 0), x.rivals(0, 41, 0),
            x.rivals(0, 0, -1), x.rivals(0, 0, 2));
        T.due("20: none needed", x.rivals(0, 0, 0), 0);
        T.due("20: the empty set", x.rivals(0, 0, 1), 0);
        T.due("20: two ahead", x.rivals(3, 0, 0), 2);
        T.due("20: which", x.rivals(3, 0, 1), 3);
        T.due("20: three ahead", x.rivals(2, 0, 0), 3);
        T.due("20: which three", x.rivals(2, 0, 1), 11);
        T.due("20: parted", x.rivals(4, 0, 0), -4);
        T.due("20: parted, which", x.rivals(4, 0, 1), -4);
        T.due("20: in 20 years the first is gone", x.rivals(1, 20, 0), 0);
        T.due("20: in 19 it is not", x.rivals(1, 19, 1), 1);
        T.due("20: 40 years", x.rivals(3, 40, 0), 0);
        T.due("20: too late", x.rivals(0, 20, 0), -4);
        // Either of two who go ahead may go: the least set.
        LongestWed two = T.town("p9,p8,p7");
        T.due("20: one of two", two.rivals(2, 20, 0), 1);
        T.due("20: the least", two.rivals(2, 20, 1), 1);
        // Without 0 and 1 (set 3) the third is gone behind 20 years; but 2 alone (set 4) is fewer.
        LongestWed fewer = T.town("d9,d8,p7,p6");
        T.due("20: fewer beat the least", fewer.rivals(3, 20, 0), 1);
        T.due("20: which is fewer", fewer.rivals(3, 20, 1), 4);
        LongestWed few = T.town("p5,p6,p8,p7");
        T.due("20: one behind 20", few.rivals(1, 20, 0), 1);
        T.due("20: the least of one", few.rivals(1, 20, 1), 4);
        T.due("20: nothing is changed", few.count(4), 15);
    }

    private static void promise21Needs() {
        LongestWed x = T.town("p9~15,p8x,p7@90,d6~19");
        T.bad("21: needs", x.needs(-1, 1), x.needs(4, 1), x.needs(0, 0), x.needs(0, 41), x.needs(1, 0), x.needs(0, LOW));
        T.due("21: parted", x.needs(1, 1), -2);
        T.due("21: none for 4", x.needs(0, 4), 0);
        T.due("21: 1 for 5", x.needs(0, 5), 1);
        T.due("21: 15 for 19", x.needs(0, 19), 15);
        T.due("21: none for 20", x.needs(0, 20), -4);
        T.due("21: of old age", x.needs(2, 10), -4);
        T.due("21: of old age a year before", x.needs(2, 9), 0);
        T.due("21: the proud, 3 a year", T.town("d6~19").needs(0, 6), 18);
        T.due("21: the silent, 3 in each other year", T.town("l6~19").needs(0, 12), 18);
        T.due("21: 19", T.town("p6~19").needs(0, 19), 19);
        T.due("21: nothing is changed", x.of(0, 3), 15);
    }

    private static void promise22Soothe() {
        LongestWed x = T.town("p9~18,p5~3,p20x");
        T.bad("22: soothe", x.soothe(0, 0), x.soothe(41, 0), x.soothe(1, -1), x.soothe(1, 2), x.soothe(LOW, HIGH));
        T.due("22: of like ones the first", x.soothe(1, 0), 0);
        T.due("22: both", x.soothe(1, 1), 2);
        T.due("22: the keeper", x.soothe(3, 0), 0);
        T.due("22: both in 3", x.soothe(3, 1), 2);
        T.due("22: one in 40", x.soothe(25, 1), 1);
        LongestWed later = T.town("p5,b9@40~16,p3");
        T.due("22: the second", later.soothe(2, 0), 1);
        T.due("22: three", later.soothe(2, 1), 3);
        T.due("22: without it two", later.then(2), 5);
        LongestWed five = T.town("p9~19,p5@90");
        T.due("22: by 5 for 5 years", five.soothe(5, 1), 2);
        T.due("22: by 5 not for 6", five.soothe(6, 1), 1);
        T.due("22: nobody is left", T.town("p5,p4@99").soothe(40, 1), 0);
        T.due("22: the first all the same", T.town("p5x,p4@99").soothe(40, 0), 1);
        T.due("22: nobody together", T.town("p5x").soothe(1, 0), -4);
        T.due("22: nobody together, how many", T.town("p5x").soothe(1, 1), -4);
        T.due("22: no couples", new LongestWed().soothe(1, 1), -4);
        T.due("22: nothing is changed", x.of(0, 3), 18);
    }

    private static void promise23Start() {
        LongestWed x = T.town("p9~18,p5x,p5x,p0");
        T.bad("23: start", x.start(-1), x.start(61), x.start(HIGH), x.start(LOW));
        T.due("23: not at once", x.start(0), -4);
        T.due("23: behind 2, ahead of the last one", x.start(2), 1);
        T.due("23: the last one goes first", T.town("p0,p9~18,p5x").start(2), -4);
        T.due("23: nobody else", T.town("p9x,p8x").start(0), 0);
        T.due("23: behind 19", T.town("p9x,p8x").start(19), 0);
        T.due("23: behind 20", T.town("p9x,p8x").start(20), -4);
        T.due("23: of a kind that lasts", T.town("d9x,p8x").start(19), 1);
        T.due("23: each apart", T.town("d9x,d8x,p8x").start(10), 2);
        T.due("23: each from now", T.town("p40,d9x,l8x").start(30), 2);
        T.due("23: none is parted", T.town("p9").start(0), -4);
        T.due("23: no couples", new LongestWed().start(60), -4);
        T.due("23: behind 60", T.town("p9,p8,p7x").start(59), 2);
        T.due("23: at 60", T.town("p9,p8,p7,p6x").start(60), 3);
        T.due("23: nothing is changed", x.count(4), 9);
    }

    private static void promise24Sum() {
        LongestWed x = T.town("p9~18,d5~4,p3~9x");
        T.bad("24: sum", x.sum(0), x.sum(41), x.sum(-1), x.sum(HIGH), x.sum(LOW));
        int[] want = {18, 37, 39, 44, 52, 63, 77, 94, 94};
        for (int n = 1; n <= want.length; n++) {
            T.due("24: sum(" + n + ")", x.sum(n), want[n - 1]);
        }
        T.due("24: no couples", new LongestWed().sum(40), 0);
        T.due("24: by 40", T.town("p9,p8,p7").sum(40), 380);
        T.due("24: nothing is changed", x.count(5), 22);
    }

    private static void promise25Rows() {
        LongestWed x = T.town("p5~9,p9~10,p9~19,p20~12x,p1~10");
        T.bad("25: rows", x.rows(-2, 0, 0), x.rows(5, 0, 0), x.rows(0, -1, 0), x.rows(0, 11, 0), x.rows(0, 0, -1),
            x.rows(0, 0, 2), x.rows(LOW, 0, 0), x.rows(HIGH, 0, 0));
        fraction(x, 1, 3, 7, 10);
        fraction(x, 2, 3, 21, 100);
        fraction(x, 0, 3, 9, 100);
        fraction(x, 3, 3, 0, 1);
        fraction(x, 4, 3, 0, 1);
        fraction(x, -1, 3, 0, 1);
        fraction(x, 1, 5, 1, 2);
        fraction(x, 2, 5, 1, 4);
        fraction(x, 0, 10, 1, 1);
        fraction(x, 1, 10, 0, 1);
        fraction(x, 1, 0, 1, 1);
        fraction(x, 2, 0, 0, 1);
        LongestWed seven = T.town("p7~10,p6~10,p5~10,p4~10,p3~10,p2~10,p1~10");
        fraction(seven, -1, 3, 2187, 10000000);
        fraction(seven, 6, 3, 5103, 10000000);
        fraction(seven, -1, 10, 1, 1);
        fraction(seven, 6, 2, 4, 78125);
        fraction(new LongestWed(), -1, 3, 1, 1);
        T.bad("25: no such couple", new LongestWed().rows(0, 3, 0));
        T.due("25: nothing is changed", x.count(5), 48);
    }

    private static void fraction(LongestWed x, int couple, int c, int above, int below) {
        T.due("25: above, couple " + couple + " by " + c, x.rows(couple, c, 0), above);
        T.due("25: below, couple " + couple + " by " + c, x.rows(couple, c, 1), below);
    }

    private static void promise26And27Image() {
        LongestWed x = T.town("p9~3,d5~4");
        T.due("27: there is none", x.restore(), -4);
        x.seed(21);
        x.years(2);
        x.nurse(1, 1);
        Due.typeAll(x, "p1");
        x.sheet(0, 0, 3);
        T.due("26: image", x.image(), 1);
        x.couple(2, 80);
        x.years(30);
        x.seed(5);
        x.sheet(0, 2, 5);
        T.due("27: restore", x.restore(), 1);
        T.due("27: couples", x.count(0), 2);
        T.due("27: year", x.count(1), 2);
        T.due("27: tempers", x.of(0, 3) * 100 + x.of(1, 3), 501);
        T.due("27: the draw", x.seed(21), 21);
        T.due("27: what may be undone", x.count(6), 3);
        T.due("27: undone", x.undo(), 2);
        T.due("27: as ahead of it", x.of(1, 3), 2);
        x.years(12);
        T.due("27: again", x.restore(), 1);
        T.due("27: again what may be undone", x.count(6), 3);
        x.undo();
        x.undo();
        T.due("27: the first again", x.undo(), 0);
        T.due("27: as at first", x.of(0, 3) * 100 + x.of(1, 3), 304);
        T.due("27: sheets stay", x.drop(0), 5);
        T.due("27: the tape stays", x.type(','), 3);
        x.image();
        x.years(1);
        T.due("26: a new image", x.restore(), 1);
        T.due("26: in place of the old one", x.count(1), 0);
    }

    private static LongestWed withRow(String text, long... items) {
        LongestWed x = T.town(text);
        x.sheet(1, 3, items.length + 2);
        for (int k = 0; k < items.length; k++) {
            x.item(1, 3, k + 1, items[k]);
        }
        return x;
    }

    private static void promise28Heard() {
        LongestWed x = withRow("p9~4,d5~4,p20~7x", 5, 6);
        T.bad("28: heard", x.heard(-1, 1, 3, 1, 2, 0), x.heard(3, 1, 3, 1, 2, 0), x.heard(0, -1, 3, 1, 2, 0),
            x.heard(0, 4, 3, 1, 2, 0), x.heard(0, 1, -1, 1, 2, 0), x.heard(0, 1, 4, 1, 2, 0), x.heard(0, 1, 3, 1, 0, 0),
            x.heard(0, 1, 3, 1, 9, 0), x.heard(0, 1, 3, 1, 2, -1), x.heard(0, 1, 3, 1, 2, 4), x.heard(0, 0, 3, 1, 9, 0));
        T.due("28: null", x.heard(0, 0, 3, 1, 2, 0), -11);
        T.due("28: cast", x.heard(0, 1, 2, 1, 2, 0), -12);
        T.due("28: cast ahead of index", x.heard(0, 1, 2, 9, 2, 0), -12);
        T.due("28: index above", x.heard(0, 1, 3, 3, 2, 0), -13);
        T.due("28: index below", x.heard(0, 1, 3, -1, 2, 0), -13);
        T.due("28: index far above", x.heard(0, 1, 3, HIGH, 8, 0), -13);
        T.due("28: kinds", x.heard(0, 1, 3, 1, 2, 0), 1 + 4 + 16);
        T.due("28: tempers", x.heard(0, 1, 3, 1, 2, 1), 1 << 4);
        T.due("28: how many wed", x.heard(0, 1, 3, 1, 2, 2), 76);
        T.due("28: the least", x.heard(0, 1, 3, 1, 2, 3), 5);
        T.due("28: not of the other", x.heard(1, 1, 3, 1, 2, 0), 0);
        T.due("28: nor by wed", x.heard(1, 1, 3, 1, 2, 2), 0);
        T.due("28: none", x.heard(1, 1, 3, 1, 2, 3), -4);
        LongestWed down = withRow("p9~4,d5~4,p20~7x", 3, 2);
        T.due("28: kinds of the second", down.heard(1, 1, 3, 1, 2, 0), 1 + 2);
        T.due("28: wed shorter", down.heard(1, 1, 3, 1, 2, 2), 10);
        T.due("28: the least is 0", down.heard(1, 1, 3, 1, 2, 3), 0);
        LongestWed still = withRow("p9~4,d5~4,p20~7x", 7, 7, 7);
        T.due("28: parted, kinds", still.heard(2, 1, 3, 1, 3, 0), 31);
        T.due("28: parted, tempers", still.heard(2, 1, 3, 1, 3, 1), 1 << 7);
        T.due("28: parted, wed", still.heard(2, 1, 3, 1, 3, 2), 81);
        LongestWed edge = withRow("p79~4,p5~4", 5);
        T.due("28: wed since 80 alone", edge.heard(1, 1, 3, 1, 1, 2), 1);
        T.due("28: the least is 80", edge.heard(1, 1, 3, 1, 1, 3), 80);
        T.due("28: the most of the first is 80", edge.heard(0, 1, 3, 1, 1, 2), 76);
        LongestWed low = withRow("p9,p5", 0);
        T.due("28: 0 or 1", low.heard(1, 1, 3, 1, 1, 1), 3);
        T.due("28: with 18 or 19 apart", withRow("d5~1", 19).heard(0, 1, 3, 1, 1, 1), (1 << 16) | (1 << 17) | (1 << 18) | (1 << 19));
        T.due("28: longs are not cut", withRow("p9~4", 5 + (1L << 32)).heard(0, 1, 3, 1, 1, 0), 0);
        T.due("28: below 0", withRow("p9~4", -1).heard(0, 1, 3, 1, 1, 1), 0);
        T.due("28: nothing is changed", x.count(1) + x.count(6) + x.of(0, 0), 0);
    }

    private static void promise29Film() {
        LongestWed x = T.town("p9~4,d5~4,p20~7x");
        for (int lane = 0; lane < 4; lane++) {
            x.sheet(lane, lane, 24);
        }
        T.bad("29: film", x.film(-1, 1, 0, 0, 0), x.film(3, 1, 0, 0, 0), x.film(0, 0, 0, 0, 0), x.film(0, 25, 0, 0, 0),
            x.film(0, 1, -1, 0, 0), x.film(0, 1, 4, 0, 0), x.film(0, 1, 0, -1, 0), x.film(0, 1, 0, 4, 0));
        for (int lane = 0; lane < 4; lane++) {
            T.due("29: n", x.film(0, 8, lane, lane, 16), 8);
            T.due("29: as heard", x.heard(0, lane, lane, 16, 8, 1), 1 << 4);
            T.due("29: not ahead of it", x.heard(0, lane, lane, 15, 1, 1), 0);
            T.due("29: 24", x.film(1, 24, lane, lane, 0), 24);
            T.due("29: as heard of the second", x.heard(1, lane, lane, 0, 8, 1), 1 << 4);
        }
        x.sheet(0, 0, 24);
        x.film(0, 3, 0, 0, 1);
        T.due("29: 0 stays ahead of it", x.heard(0, 0, 0, 0, 1, 1), 0);
        T.due("29: the third", x.heard(0, 0, 0, 3, 1, 1), 1 << 6);
        T.due("29: 0 stays behind it", x.heard(0, 0, 0, 4, 1, 1), 0);
        x.film(1, 24, 0, 0, 0);
        T.due("29: index", x.film(0, 24, 0, 0, 1), -13);
        T.due("29: index below", x.film(0, 1, 0, 0, -1), -13);
        T.due("29: index far above", x.film(0, 24, 0, 0, HIGH), -13);
        T.due("29: refused changes nothing", x.heard(1, 0, 0, 0, 8, 1), 1 << 4);
        T.due("29: cast", x.film(0, 24, 0, 1, 1), -12);
        x.drop(0);
        T.due("29: null", x.film(0, 24, 0, 1, 1), -11);
        T.due("29: nothing is changed", x.count(1) + x.count(6), 0);
    }

    private static void promise30Sheet() {
        LongestWed x = T.town("p9");
        T.bad("30: sheet", x.sheet(-1, 0, 1), x.sheet(4, 0, 1), x.sheet(0, -1, 1), x.sheet(0, 4, 1), x.sheet(0, 0, 25),
            x.sheet(4, 0, -1), x.sheet(0, 4, -1), x.sheet(0, 0, HIGH));
        T.due("30: none yet", x.drop(0), -11);
        T.due("30: size", x.sheet(0, 0, -1), -14);
        T.due("30: size far below", x.sheet(0, 0, LOW), -14);
        T.due("30: refused", x.drop(0), -11);
        T.due("30: 0 items", x.sheet(0, 3, 0), 0);
        T.due("30: no item", x.item(0, 3, 0, 1), -13);
        T.due("30: 24 items", x.sheet(3, 1, 24), 24);
        x.item(3, 1, 5, 1);
        x.item(3, 1, 0, 1);
        x.item(3, 1, 23, 1);
        T.due("30: that one is heard", x.heard(0, 3, 1, 5, 1, 1), 1);
        T.due("30: a new row", x.sheet(3, 1, 24), 24);
        T.due("30: of zeros", x.heard(0, 3, 1, 5, 1, 1), 0);
        T.due("30: of zeros from the first", x.heard(0, 3, 1, 0, 1, 1), 0);
        T.due("30: of zeros to the last", x.heard(0, 3, 1, 23, 1, 1), 0);
        x.sheet(3, 1, -1);
        T.due("30: refused leaves the row", x.drop(3), 24);
    }

    private static void promise31Drop() {
        LongestWed x = new LongestWed();
        T.bad("31: drop", x.drop(-1), x.drop(4), x.drop(HIGH), x.drop(LOW));
        T.due("31: null", x.drop(2), -11);
        x.sheet(2, 0, 7);
        x.sheet(1, 0, 0);
        T.due("31: seven", x.drop(2), 7);
        T.due("31: none", x.drop(1), 0);
        T.due("31: nothing then", x.drop(2), -11);
        T.due("31: no item then", x.item(2, 0, 0, 1), -11);
    }

    private static void promise32Item() {
        LongestWed x = T.town("p9~4");
        for (int lane = 0; lane < 4; lane++) {
            x.sheet(lane, lane, 2);
        }
        T.bad("32: item", x.item(-1, 0, 0, 0), x.item(4, 0, 0, 0), x.item(0, -1, 0, 0), x.item(0, 4, 0, 0));
        T.due("32: cast", x.item(0, 1, 9, 0), -12);
        T.due("32: index above", x.item(0, 0, 2, 0), -13);
        T.due("32: index below", x.item(0, 0, -1, 0), -13);
        T.due("32: index far", x.item(0, 0, HIGH, 0) + x.item(0, 0, LOW, 0), -26);
        long[] above = {1L << 8, 1L << 16, 1L << 32};
        for (int lane = 0; lane < 4; lane++) {
            T.due("32: 1", x.item(lane, lane, 1, 5), 1);
            T.due("32: as put", x.heard(0, lane, lane, 1, 1, 1), 1 << 4);
            for (int bits = 0; bits < 3; bits++) {
                x.item(lane, lane, 1, 5 + above[bits]);
                T.due("32: lane " + lane + ", the lowest bits alone", x.heard(0, lane, lane, 1, 1, 1), bits >= lane ? 1 << 4 : 0);
            }
        }
        x.drop(0);
        T.due("32: null", x.item(0, 1, 9, 0), -11);
    }

    private static void promise33Copy() {
        LongestWed x = T.town("p9~4");
        x.sheet(0, 2, 5);
        x.sheet(1, 2, 4);
        x.sheet(2, 1, 4);
        T.bad("33: copy", x.copy(-1, 0, 0, 0, 1), x.copy(4, 0, 0, 0, 1), x.copy(0, 0, -1, 0, 1), x.copy(0, 0, 4, 0, 1),
            x.copy(3, 0, 4, 0, 1));
        T.due("33: null from", x.copy(3, 0, 0, 0, 1), -11);
        T.due("33: null to", x.copy(0, 0, 3, 9, 1), -11);
        T.due("33: cast", x.copy(0, 9, 2, 0, 1), -12);
        T.due("33: index", x.copy(0, 2, 1, 0, 4), -13);
        T.due("33: index to", x.copy(0, 0, 1, 1, 4), -13);
        T.due("33: index below", x.copy(0, -1, 1, 0, 1), -13);
        T.due("33: index to below", x.copy(0, 0, 1, -1, 1), -13);
        T.due("33: below 0 items", x.copy(0, 1, 1, 1, -1), -13);
        T.due("33: far", x.copy(0, HIGH, 1, 0, HIGH), -13);
        T.due("33: 0 items", x.copy(0, 5, 1, 4, 0), 0);
        T.due("33: 0 items behind the end", x.copy(0, 6, 1, 4, 0), -13);
        for (int k = 0; k < 5; k++) {
            x.item(0, 2, k, k + 5);
        }
        T.due("33: n", x.copy(0, 1, 1, 2, 2), 2);
        row(x, 1, 2, 0, 0, 6, 7);
        T.due("33: up in the same", x.copy(0, 0, 0, 1, 4), 4);
        row(x, 0, 2, 5, 5, 6, 7, 8);
        T.due("33: down in the same", x.copy(0, 1, 0, 0, 4), 4);
        row(x, 0, 2, 5, 6, 7, 8, 8);
    }

    /** Items are seen by heard: a plain keeper's temper behind a year is what it is now, and 1. */
    private static void row(LongestWed x, int sheet, int lane, int... items) {
        for (int k = 0; k < items.length; k++) {
            int want = items[k] == 0 ? 0 : 1 << items[k] - 1;
            T.due("33: item " + k + " of " + sheet, x.heard(0, sheet, lane, k, 1, 1), want);
        }
    }
}
