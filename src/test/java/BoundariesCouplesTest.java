/** Boundary cases of section 1 of 'Terms' (couples, who has the keys, kinds, a year), and of promises 2, 3 and 6. */
public final class BoundariesCouplesTest {
    private static final Due T = new Due();
    private static final int FULL = -3, NONE = -4;
    private static final int KIND = 0, WED = 1, OLD = 2, TEMPER = 3, PARTED = 4, WORSE = 5;
    private static final int KEYS = 2, SECOND = 3, TOGETHER = 4;

    public static void main(String[] args) {
        couplesAsTheyCome();
        coupleIsBad();
        coupleIsFull();
        ofIsBad();
        ofAPartedOne();
        worseBelowNought();
        countIsBad();
        countWithoutAny();
        countOfTempers();
        keysOfLikeOnes();
        keysOfThoseTogether();
        secondOfTheOthers();
        plainAndProud();
        soupAsSecond();
        silentInEvenYears();
        brickFromTenOn();
        temperNoughtAtLeast();
        byHowAllIsAheadOfIt();
        wedNinetyNineAtMost();
        oldByAHundred();
        temperOfTwenty();
        bothAtOnce();
        thoseParted();
        T.end();
    }

    private static void couplesAsTheyCome() {
        T.says("COUPLES 0 .. 6, as they come");
        LongestWed x = new LongestWed();
        for (int c = 0; c <= 6; c++) {
            T.due("couple", x.couple(c % 5, c * 10), c);
        }
        for (int c = 0; c <= 6; c++) {
            T.of("couple " + c, x, c, c % 5, c * 10);
        }
        T.says("they are TOGETHER (at first) or PARTED");
        T.due("together", x.count(TOGETHER), 127);
        T.says("A COUPLE, OLD by 40, in a TEMPER 0: its number");
        LongestWed later = T.town("p9");
        later.years(5);
        T.due("a couple in year 5", later.couple(4, 80), 1);
        T.of("a couple in year 5", later, 1, 4, 80, 40, 0, 0);
        T.due("its year", later.count(1), 5);
    }

    private static void coupleIsBad() {
        T.says("A COUPLE, OLD by 40, in a TEMPER 0: its number. BAD");
        T.range("kind", 0, 4, kind -> new LongestWed().couple(kind, 9));
        T.range("wed", 0, 80, wed -> new LongestWed().couple(0, wed));
        LongestWed x = new LongestWed();
        x.couple(5, 9);
        x.couple(0, 81);
        T.due("none came", x.count(0), 0);
        T.says("WED since 0 .. 80 YEARS");
        T.due("wed since 0", x.couple(0, 0), 0);
        T.due("wed since 80", x.couple(0, 80), 1);
        T.due("told 0", x.of(0, WED), 0);
        T.due("told 80", x.of(1, WED), 80);
    }

    private static void coupleIsFull() {
        T.says("A COUPLE, OLD by 40, in a TEMPER 0: its number. BAD; FULL: 7");
        LongestWed x = T.town("p1,p2,p3,p4,p5,p6");
        T.due("the seventh", x.couple(0, 7), 6);
        T.due("the eighth", x.couple(0, 8), FULL);
        T.due("seven", x.count(0), 7);
        LongestWed parted = T.town("p1x,p2x,p3x,p4x,p5x,p6x,p7x");
        T.due("those parted count", parted.couple(0, 8), FULL);
        T.bad("ahead of full", parted.couple(-1, 8), parted.couple(0, -1));
    }

    private static void ofIsBad() {
        T.says("OLD by 20 .. 99, in a TEMPER 0 .. 19");
        for (int old = 20; old <= 99; old++) {
            T.due("old by " + old, T.town("p9@" + old).of(0, OLD), old);
        }
        for (int temper = 0; temper <= 19; temper++) {
            T.due("in a temper " + temper, T.town("p9~" + temper).of(0, TEMPER), temper);
        }
        T.says("Of a COUPLE: 0 KIND, 1 since how many YEARS it is WED, 2 how OLD, 3 TEMPER, 4 whether it is PARTED (1, 0)");
        LongestWed x = T.town("b80@99~19,d0@20~0x");
        T.of("the first", x, 0, 4, 80, 99, 19, 0);
        T.of("the last", x, 1, 1, 0, 20, 0, 1);
        T.range("couple", 0, 1, couple -> x.of(couple, KIND));
        T.range("what", 0, 5, what -> x.of(0, what));
        T.bad("without couples", new LongestWed().of(0, 0), new LongestWed().of(0, 5), new LongestWed().of(-1, 0));
    }

    private static void ofAPartedOne() {
        T.says("5 by how much TEMPER is worse in this YEAR, and 10 (10: PARTED)");
        for (char kind : "pdslb".toCharArray()) {
            T.due("parted " + kind, T.town(kind + "80~19x").of(0, WORSE), 10);
            T.due("parted " + kind + " beside others", T.town("p9,p8," + kind + "80~10x").of(2, WORSE), 10);
        }
    }

    /** By how much is asked, not what it comes to: temper 0 can't be better. */
    private static void worseBelowNought() {
        T.says("(below 0: better)");
        LongestWed x = T.town("p9,s8,p7");
        T.due("the second, in a temper 0", x.of(1, WORSE), 7);
        T.due("another, in a temper 0", x.of(2, WORSE), 9);
        T.due("the keeper, in a temper 19", T.town("d9~19").of(0, WORSE), 13);
    }

    private static void countIsBad() {
        T.says("0 COUPLES, 1 the YEAR, 2 who has THE KEYS (NONE), 3 the SECOND (NONE), 4 who is TOGETHER (a set)");
        T.range("what", 0, 6, what -> T.town("p9,p8").count(what));
        LongestWed x = T.town("p9,p8,p7x");
        x.years(2);
        int[] want = {3, 2, 0, 1, 3, 2, 2};
        for (int what = 0; what < want.length; what++) {
            T.due("count(" + what + ")", x.count(what), want[what]);
        }
    }

    private static void countWithoutAny() {
        T.says("2 who has THE KEYS (NONE), 3 the SECOND (NONE)");
        for (LongestWed x : new LongestWed[] {new LongestWed(), T.town("p9x"), T.town("p9x,d80x")}) {
            T.due("keys", x.count(KEYS), NONE);
            T.due("second", x.count(SECOND), NONE);
            T.due("together", x.count(TOGETHER), 0);
            T.due("tempers", x.count(5), 0);
        }
        T.due("keys of one", T.town("p9x,p0").count(KEYS), 1);
        T.due("second of one", T.town("p9x,p0").count(SECOND), NONE);
    }

    private static void countOfTempers() {
        T.says("5 all TEMPERS of those together");
        T.due("but for those parted", T.town("p9~3,p8~19x,p7~4").count(5), 7);
        T.due("the most", T.town("p9~19,p9~19,p9~19,p9~19,p9~19,p9~19,p9~19").count(5), 133);
        LongestWed apart = T.town("p9~19,p8~5");
        apart.stir(0, 1);
        T.due("parted since", apart.count(5), 5);
        T.says("6 what may be UNDONE");
        LongestWed done = T.town("p9");
        T.due("nothing", done.count(6), 0);
        done.years(8);
        T.due("eight", done.count(6), 8);
        done.years(1);
        T.due("nine", done.count(6), 8);
    }

    private static void keysOfLikeOnes() {
        T.says("THE KEYS are with that COUPLE of those TOGETHER that is WED longest, of like ones the first");
        T.due("three alike", T.town("p9,p9,p9").count(KEYS), 0);
        T.due("behind a shorter one", T.town("p8,p9,p9").count(KEYS), 1);
        T.due("a year longer", T.town("p9,p9,p10").count(KEYS), 2);
        T.due("alike by 0", T.town("p0,p0").count(KEYS), 0);
        T.due("older ones are not first", T.town("p9@20,p9@99").count(KEYS), 0);
    }

    private static void keysOfThoseTogether() {
        T.says("of those TOGETHER that is WED longest");
        T.due("but for the parted one", T.town("p80x,p0").count(KEYS), 1);
        T.due("of like ones, the first parted", T.town("p9x,p9,p9").count(KEYS), 1);
    }

    private static void secondOfTheOthers() {
        T.says("the SECOND is that of the others TOGETHER of which this holds (none, if there is none)");
        T.due("of like ones the first", T.town("p9,p9,p9").count(SECOND), 1);
        T.due("ahead of the keeper", T.town("p5,p5,p9").count(SECOND), 0);
        T.due("behind a shorter one", T.town("p9,p8,p9").count(SECOND), 2);
        T.due("but for the parted one", T.town("p9,p9x,p0").count(SECOND), 2);
        T.due("none of the others together", T.town("p9,p8x,p7x").count(SECOND), NONE);
    }

    private static void worse(String text, int couple, int want) {
        T.due(text + ": of(" + couple + ", 5)", T.town(text).of(couple, WORSE), want + 10);
    }

    private static void plainAndProud() {
        T.says("0 PLAIN: 1 worse, if they have THE KEYS, else 1 better");
        worse("p9", 0, 1);
        worse("p9,p9", 1, -1);
        T.says("1 PROUD: as PLAIN; 2 worse than that, if they have THE KEYS");
        worse("d9", 0, 3);
        worse("d9,d9", 1, -1);
        worse("p10,p10,d9", 2, -1);
    }

    private static void soupAsSecond() {
        T.says("2 SOUP (below PLAIN): as PLAIN; 2 better than that, if they are the SECOND");
        worse("s9", 0, 1);
        worse("s9,s9", 1, -3);
        worse("p9,p9,s9", 2, -1);
        worse("p9,p9x,s9", 2, -3);
        worse("p8,s9,p9", 1, 1);
        worse("s8,p9,p8", 0, -3);
    }

    private static void silentInEvenYears() {
        T.says("3 SILENT (below PROUD): as PROUD in YEARS of an even number, else 0");
        LongestWed x = T.town("l9,l8");
        int[] keeper = {13, 10, 13, 10};
        int[] other = {9, 10, 9, 10};
        for (int year = 0; year < 4; year++) {
            T.due("keeper in year " + year, x.of(0, WORSE), keeper[year]);
            T.due("another in year " + year, x.of(1, WORSE), other[year]);
            x.years(1);
        }
        LongestWed late = T.lateTown("l9");
        late.years(38);
        late.wed(0);
        T.due("in year 9998", late.of(0, WORSE), 13);
        late.years(1);
        T.due("in year 9999", late.of(0, WORSE), 10);
        T.says("FORETOLD from now");
        T.due("behind year 9999", late.ahead(0, 2), 6);
        T.due("the first of them", late.ahead(0, 1), 3);
    }

    private static void brickFromTenOn() {
        T.says("4 BRICK (below SOUP): as SOUP; 3 worse than that, if TEMPER is 10 or more");
        worse("b9~9", 0, 1);
        worse("b9~10", 0, 4);
        worse("b9~19", 0, 4);
        worse("p9,b9~9", 1, -3);
        worse("p9,b9~10", 1, 0);
        worse("p9,p9,b9~9", 2, -1);
        worse("p9,p9,b9~10", 2, 2);
        worse("b9~0", 0, 1);
    }

    private static void tempers(String text, int... want) {
        LongestWed x = T.town(text);
        x.years(1);
        for (int c = 0; c < want.length; c++) {
            T.due(text + ", a year: temper of " + c, x.of(c, TEMPER), want[c]);
        }
    }

    private static void temperNoughtAtLeast() {
        T.says("all TEMPERS of those TOGETHER are so much worse or better (0 at least)");
        tempers("p9,p8~0,p8~1,p8~2", 1, 0, 0, 1);
        tempers("p9,s8~0", 1, 0);
        tempers("p9,s8~2", 1, 0);
        tempers("p9,s8~3", 1, 0);
        tempers("p9,s8~4", 1, 1);
    }

    private static void byHowAllIsAheadOfIt() {
        T.says("by how all is ahead of it");
        tempers("p9~19,d5~4", 19, 3);
        tempers("p9,p8@99~3,s5~9", 1, 2, 8);
        tempers("p9~19,p8,s5~9", 19, 0, 8);
        tempers("b9~9", 10);
        tempers("b9~10", 14);
        tempers("p9,p8,b7~10", 1, 0, 12);
        T.due("the keys pass on behind it", T.town("p9~19,d5~4").years(1), 1);
        // Whichever comes first in number: nobody sees another's new temper or years.
        tempers("s5~9,p9~19,p8", 8, 19, 0);
        tempers("d8~4,p9~19", 3, 19);
    }

    private static void wedNinetyNineAtMost() {
        T.says("then each COUPLE TOGETHER is WED 1 YEAR longer (99 at most), OLDER by 1");
        LongestWed x = T.town("p79@20,p80@20");
        x.years(15);
        x.nurse(1, 19);
        T.due("keys in year 19", x.years(4), 1);
        T.due("98 years", x.of(0, WED), 98);
        T.due("99 years", x.of(1, WED), 99);
        T.due("keys in year 20, of like ones the first", x.years(1), 0);
        T.due("99 years too", x.of(0, WED), 99);
        T.due("99 years at most", x.of(1, WED), 99);
        x.years(3);
        T.due("still 99", x.of(0, WED), 99);
        T.due("older all the same", x.of(0, OLD), 43);
        LongestWed told = T.town("p80");
        told.years(1);
        T.due("more than can be told", told.of(0, WED), 81);
    }

    private static void oldByAHundred() {
        T.says("or who are OLD by 100, are PARTED then (TEMPER 19 at most, OLD by 99 at most then)");
        LongestWed x = T.town("p9,p8@98~7,p7@99~7");
        T.due("keys", x.years(1), 0);
        T.of("old by 98", x, 1, 0, 9, 99, 6, 0);
        T.of("old by 99", x, 2, 0, 8, 99, 6, 1);
        x.years(1);
        T.of("old by 99 then", x, 1, 0, 10, 99, 5, 1);
        T.of("parted before", x, 2, 0, 8, 99, 6, 1);
        LongestWed keeper = T.town("p9@99");
        T.due("the keeper", keeper.years(1), NONE);
        T.of("the keeper", keeper, 0, 0, 10, 99, 1, 1);
    }

    private static void temperOfTwenty() {
        T.says("those whose TEMPER is 20 or more");
        String[] texts = {"p9~18", "p9~19", "d9~16", "d9~17", "d9~18", "d9~19", "b9~15", "b9~16", "b9~19", "l9~16", "l9~17"};
        int[] parted = {0, 1, 0, 1, 1, 1, 0, 1, 1, 0, 1};
        for (int k = 0; k < texts.length; k++) {
            LongestWed x = T.town(texts[k]);
            T.due(texts[k] + ": keys", x.years(1), parted[k] == 1 ? NONE : 0);
            T.due(texts[k] + ": parted", x.of(0, PARTED), parted[k]);
            T.due(texts[k] + ": temper 19 at most", x.of(0, TEMPER), 19);
            T.due(texts[k] + ": wed 1 year longer", x.of(0, WED), 10);
            T.due(texts[k] + ": older by 1", x.of(0, OLD), 41);
        }
        LongestWed brick = T.town("p9,p8,b7~17,b6~18");
        brick.years(1);
        T.due("a brick that has no keys", brick.count(TOGETHER), 7);
        T.due("in a temper 19", brick.of(2, TEMPER) + brick.of(3, TEMPER), 38);
    }

    private static void bothAtOnce() {
        T.says("(TEMPER 19 at most, OLD by 99 at most then)");
        LongestWed x = T.town("d80@99~19");
        x.years(1);
        T.of("both", x, 0, 1, 81, 99, 19, 1);
    }

    private static void thoseParted() {
        T.says("all TEMPERS of those TOGETHER");
        LongestWed x = T.town("p9,d8@99~19x,s7@50~7x");
        x.years(40);
        T.of("parted", x, 1, 1, 8, 99, 19, 1);
        T.of("parted", x, 2, 2, 7, 50, 7, 1);
        T.says("It is the next YEAR");
        T.due("the year", x.count(1), 40);
        LongestWed none = new LongestWed();
        none.years(1);
        T.due("without couples", none.count(1), 1);
    }
}
