import java.util.function.Supplier;

/** Boundary cases of what 'Terms' says of all calls, and of 'Promise 1: A new object'. */
public final class BoundariesTermsTest {
    private static final Due T = new Due();
    private static final int BAD = -1, NOT = -2, FULL = -3, NONE = -4, NULL = -11, CAST = -12, INDEX = -13, SIZE = -14;
    private static final int LOW = Integer.MIN_VALUE;
    private static final int HIGH = Integer.MAX_VALUE;

    private interface Call {
        int on(LongestWed x);
    }

    public static void main(String[] args) {
        aNewObject();
        refusedOfCouplesAndDeeds();
        refusedOfWhatIsForetold();
        refusedOfSheets();
        machineFindsInOrder();
        refusedWhenFull();
        refusedButAsTold();
        whatAnswersAlone();
        setsAreBits();
        fiveHundredAndTwelveCalls();
        T.end();
    }

    private static void aNewObject() {
        T.says("A town without couples");
        LongestWed x = new LongestWed();
        T.bad("no couple 0", x.of(0, 0), x.nurse(0, 1), x.stir(0, 1), x.wed(0), x.ahead(0, 0), x.rises(0, 0), x.parts(0),
            x.rivals(0, 0, 0), x.needs(0, 1), x.rows(0, 0, 0), x.heard(0, 0, 0, 0, 1, 0), x.film(0, 1, 0, 0, 0));
        T.same("a new one", Seen.town(x), "counts 0 0 -4 -4 0 0 0 draw 1");
        T.says("It is YEAR 0 at first");
        T.due("count(1)", x.count(1), 0);
        T.due("count(1) of a town told", T.town("p9").count(1), 0);
        T.says("THE DRAW is a number of 31 bits (1 at first)");
        T.due("seed", x.seed(HIGH), 1);
        T.due("seed back", x.seed(1), HIGH);
        T.says("nothing (at first), or a row of a LANE");
        for (int sheet = 0; sheet < 4; sheet++) {
            T.due("drop(" + sheet + ")", x.drop(sheet), NULL);
        }
        T.says("NONE: there is none");
        T.due("restore()", x.restore(), NONE);
        T.says("One letter more behind THE TAPE: how many it has");
        T.due("type(p)", x.type('p'), 1);
    }

    /** Two couples, one of them parted; two deeds, one of them in the image; a tape, three sheets. */
    private static LongestWed ordinary() {
        LongestWed x = T.town("d9@50~6,b20~11x");
        x.seed(77);
        x.years(1);
        x.image();
        x.stir(0, 3);
        x.seed(99);
        Due.typeAll(x, "p1");
        x.sheet(0, 0, 3);
        x.sheet(1, 3, 2);
        x.sheet(3, 3, 0);
        for (int i = 0; i < 3; i++) {
            x.item(0, 0, i, 7 + i);
        }
        x.item(1, 3, 0, 12);
        x.item(1, 3, 1, 13);
        return x;
    }

    /** The call is answered so, and nothing of the object is then other than without the call. */
    private static void refused(String call, int want, Supplier<LongestWed> made, Call asking) {
        LongestWed x = made.get();
        T.says("of several the first that a call names");
        T.due(call, asking.on(x), want);
        T.says("What is refused changes nothing, but as told");
        T.same(call, Seen.all(x), Seen.all(made.get()));
    }

    private static void refused(String call, int want, Call asking) {
        refused(call, want, BoundariesTermsTest::ordinary, asking);
    }

    private static void refusedOfCouplesAndDeeds() {
        refused("couple(5, 9)", BAD, x -> x.couple(5, 9));
        refused("couple(0, 81)", BAD, x -> x.couple(0, 81));
        refused("of(2, 0)", BAD, x -> x.of(2, 0));
        refused("of(0, 6)", BAD, x -> x.of(0, 6));
        refused("type(31)", BAD, x -> x.type(31));
        refused("type(127)", BAD, x -> x.type(127));
        refused("count(7)", BAD, x -> x.count(7));
        refused("years(0)", BAD, x -> x.years(0));
        refused("years(41)", BAD, x -> x.years(41));
        refused("nurse(2, 1)", BAD, x -> x.nurse(2, 1));
        refused("nurse(0, 20)", BAD, x -> x.nurse(0, 20));
        refused("nurse(1, 20), parted", BAD, x -> x.nurse(1, 20));
        refused("nurse(1, 1), parted", NOT, x -> x.nurse(1, 1));
        refused("stir(2, 1)", BAD, x -> x.stir(2, 1));
        refused("stir(0, 21)", BAD, x -> x.stir(0, 21));
        refused("stir(1, 21), parted", BAD, x -> x.stir(1, 21));
        refused("stir(1, 1), parted", NOT, x -> x.stir(1, 1));
        refused("wed(2)", BAD, x -> x.wed(2));
        refused("wed(0), together", NOT, x -> x.wed(0));
        refused("drift(0)", BAD, x -> x.drift(0));
        refused("drift(41)", BAD, x -> x.drift(41));
        refused("seed(-1)", BAD, x -> x.seed(-1));
    }

    private static void refusedOfWhatIsForetold() {
        refused("keys(61)", BAD, x -> x.keys(61));
        refused("ahead(2, 61)", BAD, x -> x.ahead(2, 61));
        refused("then(61)", BAD, x -> x.then(61));
        refused("rises(1, 2), never", BAD, x -> x.rises(1, 2));
        refused("rises(1, 0), never", NONE, x -> x.rises(1, 0));
        refused("parts(2)", BAD, x -> x.parts(2));
        refused("parts(1), parted", NONE, x -> x.parts(1));
        refused("rivals(1, 41, 0), parted", BAD, x -> x.rivals(1, 41, 0));
        refused("rivals(1, 0, 2), parted", BAD, x -> x.rivals(1, 0, 2));
        refused("rivals(1, 0, 0), parted", NONE, x -> x.rivals(1, 0, 0));
        refused("needs(1, 41), parted", BAD, x -> x.needs(1, 41));
        refused("needs(1, 1), parted", NOT, x -> x.needs(1, 1));
        refused("needs(0, 40)", NONE, x -> x.needs(0, 40));
        refused("soothe(41, 0)", BAD, x -> x.soothe(41, 0));
        refused("soothe(1, 2)", BAD, x -> x.soothe(1, 2));
        refused("start(61)", BAD, x -> x.start(61));
        refused("start(0)", NONE, x -> x.start(0));
        refused("sum(41)", BAD, x -> x.sum(41));
        refused("rows(2, 0, 0)", BAD, x -> x.rows(2, 0, 0));
        refused("rows(0, 11, 0)", BAD, x -> x.rows(0, 11, 0));
        refused("rows(-2, 0, 0)", BAD, x -> x.rows(-2, 0, 0));
        Supplier<LongestWed> empty = LongestWed::new;
        refused("keys(61), no couples", BAD, empty, x -> x.keys(61));
        refused("keys(60), no couples", NONE, empty, x -> x.keys(60));
        refused("soothe(41, 1), no couples", BAD, empty, x -> x.soothe(41, 1));
        refused("soothe(40, 1), no couples", NONE, empty, x -> x.soothe(40, 1));
        refused("start(61), no couples", BAD, empty, x -> x.start(61));
        refused("undo(), nothing done", NONE, empty, x -> x.undo());
        refused("restore(), no image", NONE, empty, x -> x.restore());
    }

    /** Sheet 0 has three bytes, sheet 1 two longs, sheet 2 nothing, sheet 3 no longs. */
    private static void refusedOfSheets() {
        refused("heard, n 9 of nothing", BAD, x -> x.heard(0, 2, 0, 99, 9, 0));
        refused("heard, what 4 in another lane", BAD, x -> x.heard(0, 0, 1, 99, 1, 4));
        refused("heard, lane 4 behind the end", BAD, x -> x.heard(0, 0, 4, 99, 1, 0));
        refused("heard, couple 2 behind the end", BAD, x -> x.heard(2, 0, 0, 99, 1, 0));
        refused("heard of nothing, behind the end", NULL, x -> x.heard(0, 2, 0, 99, 1, 0));
        refused("heard in another lane, behind the end", CAST, x -> x.heard(0, 0, 1, 99, 1, 0));
        refused("heard behind the end", INDEX, x -> x.heard(0, 0, 0, 99, 1, 0));
        refused("film, n 25 to nothing", BAD, x -> x.film(0, 25, 2, 0, 99));
        refused("film, couple 2 in another lane", BAD, x -> x.film(2, 1, 0, 1, 99));
        refused("film, lane 4 behind the end", BAD, x -> x.film(0, 1, 0, 4, 99));
        refused("film to nothing, behind the end", NULL, x -> x.film(0, 1, 2, 0, 99));
        refused("film in another lane, behind the end", CAST, x -> x.film(0, 1, 0, 1, 99));
        refused("film from within to behind the end", INDEX, x -> x.film(0, 3, 0, 0, 1));
        refused("film from ahead of the first", INDEX, x -> x.film(0, 3, 0, 0, -1));
        refused("sheet 4 of below 0", BAD, x -> x.sheet(4, 0, -1));
        refused("sheet, lane 4 of below 0", BAD, x -> x.sheet(0, 4, -1));
        refused("sheet of 25", BAD, x -> x.sheet(0, 0, 25));
        refused("sheet of below 0", SIZE, x -> x.sheet(0, 0, -1));
        refused("sheet of below 0, in place of nothing", SIZE, x -> x.sheet(2, 0, LOW));
        refused("drop(4)", BAD, x -> x.drop(4));
        refused("drop(2), nothing", NULL, x -> x.drop(2));
        refused("item, lane 4 of nothing", BAD, x -> x.item(2, 4, 99, 5));
        refused("item of nothing, behind the end", NULL, x -> x.item(2, 0, 99, 5));
        refused("item in another lane, behind the end", CAST, x -> x.item(0, 2, 99, 5));
        refused("item behind the end", INDEX, x -> x.item(0, 0, 3, 5));
        refused("item ahead of the first", INDEX, x -> x.item(0, 0, -1, 5));
        refused("copy from nothing to 4", BAD, x -> x.copy(2, 99, 4, 99, 1));
        refused("copy from 4 to nothing", BAD, x -> x.copy(4, 99, 2, 99, 1));
        refused("copy from nothing, behind the end", NULL, x -> x.copy(2, 99, 0, 99, 1));
        refused("copy to nothing, behind the end", NULL, x -> x.copy(0, 99, 2, 99, 1));
        refused("copy to another lane, behind the end", CAST, x -> x.copy(0, 99, 1, 99, 1));
        refused("copy to another lane, no items", CAST, x -> x.copy(0, 0, 1, 0, 0));
        refused("copy within one to behind its end", INDEX, x -> x.copy(0, 0, 0, 1, 3));
        refused("copy to one without items", INDEX, x -> x.copy(1, 0, 3, 0, 1));
        refused("copy of below 0 items", INDEX, x -> x.copy(0, 1, 0, 0, -1));
    }

    private static void machineFindsInOrder() {
        T.says("what the machine finds: NULL -11, INDEX -13, SIZE -14 (NULL, CAST, INDEX, SIZE in this order)");
        LongestWed x = ordinary();
        for (int i : new int[] {LOW, -1, 0, 3, HIGH}) {
            boolean outside = i != 0;
            T.due("item " + i + " of nothing", x.item(2, 3, i, 1), NULL);
            T.due("item " + i + " of bytes as longs", x.item(0, 3, i, 1), CAST);
            T.due("heard from " + i + " of nothing", x.heard(0, 2, 3, i, 1, 0), NULL);
            T.due("heard from " + i + " of bytes as longs", x.heard(0, 0, 3, i, 1, 0), CAST);
            T.due("film from " + i + " to nothing", x.film(0, 1, 2, 3, i), NULL);
            T.due("film from " + i + " to bytes as longs", x.film(0, 1, 0, 3, i), CAST);
            T.due("copy from " + i + " of nothing to longs", x.copy(2, i, 1, i, 1), NULL);
            T.due("copy from " + i + " of longs to nothing", x.copy(1, i, 2, i, 1), NULL);
            T.due("copy from " + i + " of longs to bytes", x.copy(1, i, 0, i, 1), CAST);
            T.due("item " + i, x.item(0, 0, i, 1), outside ? INDEX : 1);
            T.due("copy from " + i, x.copy(0, i, 0, i, 1), outside ? INDEX : 1);
        }
        T.due("sheet of below 0", x.sheet(2, 0, -1), SIZE);
    }

    private static LongestWed fullOfCouples() {
        LongestWed x = T.town("p9,p8x,p7,p6,p5,p4,p3");
        x.years(1);
        return x;
    }

    private static LongestWed fullTape() {
        LongestWed x = T.town("p9");
        Due.typeAll(x, "p1" + " ".repeat(78));
        return x;
    }

    private static LongestWed lastYear() {
        LongestWed x = T.lateTown("p9");
        x.years(38);
        x.wed(0);
        return x;
    }

    private static void refusedWhenFull() {
        refused("couple(5, 0), full", BAD, BoundariesTermsTest::fullOfCouples, x -> x.couple(5, 0));
        refused("couple(0, 81), full", BAD, BoundariesTermsTest::fullOfCouples, x -> x.couple(0, 81));
        refused("couple(0, 0), full", FULL, BoundariesTermsTest::fullOfCouples, x -> x.couple(0, 0));
        refused("type(127), full", BAD, BoundariesTermsTest::fullTape, x -> x.type(127));
        refused("type(x), full", FULL, BoundariesTermsTest::fullTape, x -> x.type('x'));
        refused("years(41) in 9998", BAD, BoundariesTermsTest::lastYear, x -> x.years(41));
        refused("years(2) in 9998", FULL, BoundariesTermsTest::lastYear, x -> x.years(2));
        refused("years(40) in 9998", FULL, BoundariesTermsTest::lastYear, x -> x.years(40));
        refused("drift(41) in 9998", BAD, BoundariesTermsTest::lastYear, x -> x.drift(41));
        refused("drift(2) in 9998", FULL, BoundariesTermsTest::lastYear, x -> x.drift(2));
        refused("nurse(0, 1) in a temper 0", NOT, BoundariesTermsTest::lastYear, x -> x.nurse(0, 1));
        refused("nurse(0, 0) in a temper 0", BAD, BoundariesTermsTest::lastYear, x -> x.nurse(0, 0));
    }

    /** A text with a fault is gone from the tape: that is as told. All else stays. */
    private static void refusedButAsTold() {
        T.says("A FAULT (all else stays)");
        for (String rest : new String[] {",", ",q", "00", "@19", "~20", "xx", ",p2,p3,p4,p5,p6,p7,p8"}) {
            LongestWed faulty = ordinary();
            T.due("a fault by " + rest, Due.tell(faulty, rest) <= -20 ? 1 : 0, 1);
            LongestWed right = ordinary();
            T.due("the tape of it is empty", faulty.type('p') + faulty.type('1'), 3);
            T.same("a fault by " + rest, Seen.all(faulty), Seen.all(right));
        }
    }

    /** What is only asked changes nothing either. */
    private static void whatAnswersAlone() {
        T.says("FORETOLD from now (nothing is changed)");
        Call[] asking = {x -> x.keys(1), x -> x.ahead(0, 1), x -> x.then(1), x -> x.rises(0, 0), x -> x.rises(0, 1),
            x -> x.parts(0), x -> x.ever(), x -> x.rivals(0, 1, 1), x -> x.needs(0, 3), x -> x.soothe(1, 1),
            x -> x.start(15), x -> x.sum(40), x -> x.rows(0, 5, 0), x -> x.heard(0, 0, 0, 0, 3, 0),
            x -> x.heard(0, 0, 0, 0, 3, 1), x -> x.heard(0, 0, 0, 0, 3, 2), x -> x.heard(0, 0, 0, 0, 3, 3),
            x -> x.of(0, 5), x -> x.count(3)};
        for (int k = 0; k < asking.length; k++) {
            LongestWed x = ordinary();
            int first = asking[k].on(x);
            x.keys(60);
            T.due("asking " + k + " again, behind what else was foretold", asking[k].on(x), first);
            T.same("asking " + k, Seen.all(x), Seen.all(ordinary()));
        }
        T.says("TEMPER of a COUPLE behind 1, 2, .. n YEARS (1 .. 24), an item each, comes to a SHEET likewise");
        LongestWed filmed = ordinary();
        filmed.keys(60);
        filmed.film(0, 3, 0, 0, 0);
        T.due("film from now", filmed.heard(0, 0, 0, 0, 3, 1), 1 << 12);
        T.same("film but for its sheet", Seen.town(filmed), Seen.town(ordinary()));
    }

    private static void setsAreBits() {
        T.says("Sets are bits");
        LongestWed last = T.town("p9x,p8x,p7x,p6x,p5x,p4x,b3~12");
        T.due("count(4)", last.count(4), 64);
        T.due("then(0)", last.then(0), 64);
        T.due("ever()", last.ever(), 64);
        T.due("of all", T.town("p1,p1,p1,p1,p1,p1,p1").count(4), 127);
        T.due("rivals", T.town("p1,p2,p2,p2,p2,p2,p2").rivals(0, 0, 1), 126);
        LongestWed parted = T.town("b9~19x");
        parted.sheet(0, 0, 1);
        parted.item(0, 0, 0, 19);
        T.due("kinds", parted.heard(0, 0, 0, 0, 1, 0), 31);
        T.due("tempers", parted.heard(0, 0, 0, 0, 1, 1), 1 << 19);
    }

    private static void fiveHundredAndTwelveCalls() {
        T.says("An object is used for at most 512 calls after it has been made");
        LongestWed seeds = new LongestWed();
        for (int k = 1; k <= 512; k++) {
            T.due("seed, call " + k, seeds.seed(k == 512 ? HIGH : k + 1), k);
        }
        LongestWed rows = new LongestWed();
        for (int k = 1; k <= 256; k++) {
            T.due("sheet, call " + (2 * k - 1), rows.sheet(k % 4, k % 3, 24), 24);
            T.due("drop, call " + 2 * k, rows.drop(k % 4), 24);
        }
        LongestWed images = T.town("p9");
        for (int k = 1; k <= 250; k++) {
            images.image();
            T.due("restore", images.restore(), 1);
        }
        T.due("as it was", images.of(0, 1), 9);
    }
}
