/** Boundary cases of sheets and what is heard by them: promises 28 to 33, and what section 3 of 'Terms' says of them. */
public final class BoundariesSheetsTest {
    private static final Due T = new Due();
    private static final int NONE = -4, NULL = -11, CAST = -12, INDEX = -13, SIZE = -14;
    private static final int LOW = Integer.MIN_VALUE, HIGH = Integer.MAX_VALUE;
    private static final int BYTES = 0, SHORTS = 1, INTS = 2, LONGS = 3;
    private static final int KINDS = 0, TEMPERS = 1, HOW_MANY = 2, LEAST = 3;

    public static void main(String[] args) {
        heardIsBad();
        heardAtTheRowsEnds();
        heardByOneItemTooFew();
        kindsHeard();
        tempersHeard();
        wedHeard();
        heardOfAPartedOne();
        heardThroughAParting();
        heardInEachLane();
        filmIsBad();
        filmAtTheRowsEnds();
        filmToEachLane();
        sheetAtItsEnds();
        sheetIsNew();
        dropAtItsEnds();
        itemAtItsEnds();
        itemByItsLowestBits();
        copyIsBad();
        copyAtTheRowsEnds();
        copyOfNoItems();
        copyWithinOne();
        copyOfEachLane();
        T.end();
    }

    /** A town, with those items on sheet 0, a row of that lane. */
    private static LongestWed withRowOf(int lane, String text, long... items) {
        LongestWed x = T.town(text);
        x.sheet(0, lane, items.length);
        for (int i = 0; i < items.length; i++) {
            x.item(0, lane, i, items[i]);
        }
        return x;
    }

    private static LongestWed withRow(String text, long... items) {
        return withRowOf(LONGS, text, items);
    }

    /** Items 0 .. 19 of a sheet, seen by a parted couple, whose temper stays; -1 where it is no such number. */
    private static void row(String call, LongestWed x, int sheet, int lane, int... want) {
        Due.tell(x, "p0x");
        for (int i = 0; i < want.length; i++) {
            T.due(call + ": item " + i, x.heard(0, sheet, lane, i, 1, TEMPERS), want[i] < 0 ? 0 : 1 << want[i]);
        }
        T.due(call + ": its end", x.heard(0, sheet, lane, want.length, 1, TEMPERS), INDEX);
    }

    private static void heardIsBad() {
        T.says("HEARD of a COUPLE by n items of a SHEET taken as a row of a LANE, from item i on");
        LongestWed x = withRow("p9,p8", new long[24]);
        for (int sheet = 1; sheet < 4; sheet++) {
            x.sheet(sheet, LONGS, 8);
        }
        T.range("couple", 0, 1, couple -> x.heard(couple, 0, LONGS, 0, 1, KINDS));
        T.range("sheet", 0, 3, sheet -> x.heard(0, sheet, LONGS, 0, 1, KINDS));
        T.range("lane", 0, 3, lane -> x.heard(0, 0, lane, 0, 1, KINDS));
        T.range("n", 1, 8, n -> x.heard(0, 0, LONGS, 0, n, KINDS));
        T.says("KINDS (what 0), TEMPERS (1), how many YEARS it might be WED (2), the least (3; NONE). BAD");
        T.range("what", 0, 3, what -> x.heard(0, 0, LONGS, 0, 1, what));
        T.bad("no couples", new LongestWed().heard(0, 0, 0, 0, 1, 0));
        T.says("BAD; NULL; CAST; INDEX");
        x.drop(1);
        T.due("nothing", x.heard(0, 1, LONGS, -1, 1, KINDS), NULL);
        for (int lane = BYTES; lane < LONGS; lane++) {
            T.due("as lane " + lane, x.heard(0, 0, lane, -1, 1, KINDS), CAST);
        }
    }

    private static void heardAtTheRowsEnds() {
        T.says("BAD; NULL; CAST; INDEX");
        LongestWed x = withRow("p9~4", 5, 6, 7, 8, 9, 10, 11, 12);
        T.due("all eight", x.heard(0, 0, LONGS, 0, 8, TEMPERS), 1 << 4);
        T.due("the last", x.heard(0, 0, LONGS, 7, 1, TEMPERS), 1 << 11);
        int[][] outside = {{1, 8}, {8, 1}, {7, 2}, {-1, 1}, {-1, 8}, {LOW, 1}, {HIGH, 1}, {HIGH, 8}, {HIGH - 7, 8}};
        for (int[] one : outside) {
            for (int what = 0; what < 4; what++) {
                T.due("from " + one[0] + " by " + one[1], x.heard(0, 0, LONGS, one[0], one[1], what), INDEX);
            }
        }
        T.due("a row without items", withRow("p9").heard(0, 0, LONGS, 0, 1, KINDS), INDEX);
    }

    private static void heardByOneItemTooFew() {
        T.says("behind each of the next n YEARS (1 .. 8)");
        LongestWed x = withRow("p9~4", 5, 6, 7, 8, 9, 10, 11, 13);
        T.due("but for the eighth", x.heard(0, 0, LONGS, 0, 7, TEMPERS), 1 << 4);
        T.due("with the eighth", x.heard(0, 0, LONGS, 0, 8, TEMPERS), 0);
        LongestWed first = withRow("p9~4", 4, 6);
        T.due("the first is not", first.heard(0, 0, LONGS, 0, 2, TEMPERS), 0);
    }

    private static void kindsHeard() {
        T.says("KINDS (a set) of it by which it would be so");
        T.due("plain, soup, brick", withRow("d9~4", 5).heard(0, 0, LONGS, 0, 1, KINDS), 1 + 4 + 16);
        T.due("proud, silent", withRow("p9~4", 7).heard(0, 0, LONGS, 0, 1, KINDS), 2 + 8);
        T.due("a brick from 10 on", withRow("p9~10", 14).heard(0, 0, LONGS, 0, 1, KINDS), 16);
        T.due("none", withRow("p9~4", 6).heard(0, 0, LONGS, 0, 1, KINDS), 0);
        T.due("all", withRow("p9,p8,p7", 0).heard(2, 0, LONGS, 0, 1, KINDS), 31);
        LongestWed odd = withRow("p9~4", 5);
        odd.years(1);
        T.due("silent in an odd year", odd.heard(0, 0, LONGS, 0, 1, KINDS), 8);
    }

    private static void tempersHeard() {
        T.says("in what TEMPER (0 .. 19, a set) it might be now");
        T.due("0", withRow("p9~7", 1).heard(0, 0, LONGS, 0, 1, TEMPERS), 1);
        T.due("0 or 1", withRow("p9,p8~7", 0).heard(1, 0, LONGS, 0, 1, TEMPERS), 3);
        T.due("18 or 19, parted then", withRow("p9~7", 19).heard(0, 0, LONGS, 0, 1, TEMPERS), 3 << 18);
        T.due("19", withRow("p9,p8~7", 18).heard(1, 0, LONGS, 0, 1, TEMPERS), 1 << 19);
        T.due("20 is none", withRow("p9,p8~7", 19).heard(1, 0, LONGS, 0, 1, TEMPERS), 0);
        T.due("none", withRow("p9~7", 0).heard(0, 0, LONGS, 0, 1, TEMPERS), 0);
        T.due("20", withRow("p9~7", 20).heard(0, 0, LONGS, 0, 1, TEMPERS), 0);
        T.due("below 0", withRow("p9~7", -1).heard(0, 0, LONGS, 0, 1, TEMPERS), 0);
    }

    private static void wed(String text, int couple, long item, int many, int least) {
        T.due(text + ", " + item + ": how many", withRow(text, item).heard(couple, 0, LONGS, 0, 1, HOW_MANY), many);
        T.due(text + ", " + item + ": the least", withRow(text, item).heard(couple, 0, LONGS, 0, 1, LEAST), least);
    }

    private static void wedHeard() {
        T.says("since how many YEARS (0 .. 80) it might be WED now: how many such; the least; none");
        wed("p9~4", 0, 5, 81, 0);
        wed("p9~4", 0, 3, 0, NONE);
        wed("p9~4,p79", 0, 5, 2, 79);
        wed("p79,p9~4", 1, 5, 1, 80);
        wed("p80,p9~4", 1, 5, 0, NONE);
        wed("p80,p9~4", 1, 3, 81, 0);
        wed("p9~4,p80", 0, 5, 1, 80);
        wed("p9~4,p80", 0, 3, 80, 0);
        wed("p9~4,p0", 0, 5, 81, 0);
        wed("p0,p9~4", 1, 3, 1, 0);
        wed("p0,p9~4", 1, 5, 80, 1);
    }

    private static void heardOfAPartedOne() {
        T.says("HEARD: a row tells TEMPER of a COUPLE behind each of the next n YEARS");
        LongestWed x = withRow("p9,b8~19x", 19, 19, 19, 19, 19, 19, 19, 19);
        T.due("kinds", x.heard(1, 0, LONGS, 0, 8, KINDS), 31);
        T.due("tempers", x.heard(1, 0, LONGS, 0, 8, TEMPERS), 1 << 19);
        T.due("how many", x.heard(1, 0, LONGS, 0, 8, HOW_MANY), 81);
        T.due("the least", x.heard(1, 0, LONGS, 0, 8, LEAST), 0);
        LongestWed other = withRow("p9,b8~19x", 18);
        T.due("other kinds", other.heard(1, 0, LONGS, 0, 1, KINDS), 0);
        T.due("other tempers", other.heard(1, 0, LONGS, 0, 1, TEMPERS), 1 << 18);
        T.due("the least of none", other.heard(1, 0, LONGS, 0, 1, LEAST), NONE);
    }

    private static void heardThroughAParting() {
        T.says("(TEMPER 19 at most, OLD by 99 at most then)");
        T.due("19 stays", withRow("p9~7", 19, 19).heard(0, 0, LONGS, 0, 2, TEMPERS), 3 << 18);
        T.due("20 is not told", withRow("p9~7", 19, 20).heard(0, 0, LONGS, 0, 2, TEMPERS), 0);
        T.due("of old age", withRow("p9@99~7", 8, 8).heard(0, 0, LONGS, 0, 2, TEMPERS), 1 << 7);
    }

    private static void heardInEachLane() {
        T.says("0 bytes, 1 shorts, 2 ints, 3 longs");
        for (int lane = BYTES; lane <= LONGS; lane++) {
            LongestWed x = withRowOf(lane, "p9~4", 5, 6);
            for (int as = BYTES; as <= LONGS; as++) {
                T.due("lane " + lane + " as " + as, x.heard(0, 0, as, 0, 2, TEMPERS), as == lane ? 1 << 4 : CAST);
            }
        }
    }

    private static void filmIsBad() {
        T.says("TEMPER of a COUPLE behind 1, 2, .. n YEARS (1 .. 24), an item each, comes to a SHEET likewise: n");
        LongestWed x = T.town("p9,p8");
        for (int sheet = 0; sheet < 4; sheet++) {
            x.sheet(sheet, INTS, 24);
        }
        T.range("couple", 0, 1, couple -> x.film(couple, 1, 0, INTS, 0));
        T.range("n", 1, 24, n -> x.film(0, n, 0, INTS, 0));
        T.range("sheet", 0, 3, sheet -> x.film(0, 1, sheet, INTS, 0));
        T.range("lane", 0, 3, lane -> x.film(0, 1, 0, lane, 0));
        T.bad("no couples", new LongestWed().film(0, 1, 0, 0, 0));
        T.says("BAD; NULL; CAST; INDEX");
        x.drop(3);
        T.due("nothing", x.film(0, 24, 3, BYTES, 1), NULL);
        T.due("another lane", x.film(0, 24, 0, BYTES, 1), CAST);
        T.due("from 1 to behind the end", x.film(0, 24, 0, INTS, 1), INDEX);
    }

    private static void filmAtTheRowsEnds() {
        T.says("an item each, comes to a SHEET likewise: n");
        LongestWed x = withRow("p9~4", 19, 19, 19, 19);
        T.due("in the middle", x.film(0, 2, 0, LONGS, 1), 2);
        int[][] outside = {{5, 0}, {4, 1}, {1, 4}, {2, 3}, {1, -1}, {24, 0}, {1, LOW}, {1, HIGH}, {24, HIGH}, {24, HIGH - 23}};
        for (int[] one : outside) {
            T.due(one[0] + " from " + one[1], x.film(0, one[0], 0, LONGS, one[1]), INDEX);
        }
        row("two in the middle", x, 0, LONGS, 19, 5, 6, 19);
        LongestWed whole = withRow("p9~16", 0, 0, 0, 0);
        T.due("the whole row", whole.film(0, 4, 0, LONGS, 0), 4);
        row("the whole row", whole, 0, LONGS, 17, 18, 19, 19);
        LongestWed last = withRow("p9~4", 19, 19);
        T.due("the last", last.film(0, 1, 0, LONGS, 1), 1);
        row("the last", last, 0, LONGS, 19, 5);
        T.due("a row without items", withRow("p9").film(0, 1, 0, LONGS, 0), INDEX);
        LongestWed parted = withRow("p9~4x", 19, 19);
        parted.film(0, 2, 0, LONGS, 0);
        row("a parted one", parted, 0, LONGS, 4, 4);
    }

    private static void filmToEachLane() {
        T.says("0 bytes, 1 shorts, 2 ints, 3 longs");
        for (int lane = BYTES; lane <= LONGS; lane++) {
            LongestWed x = withRowOf(lane, "d9~2", 0, 0, 0);
            T.due("film to lane " + lane, x.film(0, 3, 0, lane, 0), 3);
            row("film to lane " + lane, x, 0, lane, 5, 8, 11);
        }
        LongestWed most = T.town("p9,l8@20~19");
        most.sheet(0, BYTES, 24);
        T.due("24 items", most.film(1, 24, 0, BYTES, 0), 24);
        T.due("the last of them", most.heard(1, 0, BYTES, 23, 1, TEMPERS) >= 0 ? 1 : 0, 1);
    }

    private static void sheetAtItsEnds() {
        T.says("A SHEET holds a new row of a LANE: n. BAD: also n above 24; SIZE: n below 0");
        LongestWed x = new LongestWed();
        T.range("sheet", 0, 3, sheet -> x.sheet(sheet, 0, 1));
        T.range("lane", 0, 3, lane -> x.sheet(0, lane, 1));
        T.bad("above 24", x.sheet(0, 0, 25), x.sheet(0, 0, HIGH));
        T.due("24", x.sheet(0, 0, 24), 24);
        T.due("the last of them", x.item(0, 0, 23, 1), 1);
        T.due("behind it", x.item(0, 0, 24, 1), INDEX);
        T.due("0", x.sheet(0, 0, 0), 0);
        T.due("no item", x.item(0, 0, 0, 1), INDEX);
        T.due("below 0", x.sheet(0, 0, -1), SIZE);
        T.due("far below 0", x.sheet(0, 0, LOW), SIZE);
        T.bad("ahead of size", x.sheet(-1, 0, -1), x.sheet(4, 0, -1), x.sheet(0, -1, -1), x.sheet(0, 4, -1));
        T.says("of 0 to 24 items");
        for (int n = 0; n <= 24; n++) {
            T.due("n", x.sheet(1, n % 4, n), n);
            T.due("n items", x.drop(1), n);
        }
    }

    private static void sheetIsNew() {
        T.says("A SHEET holds a new row of a LANE: n");
        LongestWed x = withRow("p9", 7, 8, 9);
        x.sheet(0, LONGS, 3);
        row("of like size", x, 0, LONGS, 0, 0, 0);
        LongestWed shorter = withRow("p9", 7, 8, 9);
        shorter.sheet(0, BYTES, 1);
        T.due("no longer of the old lane", shorter.item(0, LONGS, 0, 1), CAST);
        shorter.sheet(0, LONGS, 3);
        row("longer again", shorter, 0, LONGS, 0, 0, 0);
        LongestWed dropped = withRow("p9", 7, 8, 9);
        dropped.drop(0);
        dropped.sheet(0, LONGS, 3);
        row("behind a drop", dropped, 0, LONGS, 0, 0, 0);
    }

    private static void dropAtItsEnds() {
        T.says("A SHEET holds nothing: how many items it had. BAD; NULL");
        LongestWed x = new LongestWed();
        T.bad("no such sheet", x.drop(-1), x.drop(4), x.drop(LOW), x.drop(HIGH));
        for (int sheet = 0; sheet < 4; sheet++) {
            T.due("nothing at first", x.drop(sheet), NULL);
        }
        x.sheet(0, BYTES, 0);
        x.sheet(3, LONGS, 24);
        T.due("0 items", x.drop(0), 0);
        T.due("24 items", x.drop(3), 24);
        T.due("nothing then", x.drop(0), NULL);
        T.due("nothing then too", x.drop(3), NULL);
        T.due("no item of it", x.item(3, LONGS, 0, 1), NULL);
    }

    private static void itemAtItsEnds() {
        T.says("Item i of a SHEET, taken as a row of a LANE, becomes v, its lowest bits: 1. BAD; NULL; CAST; INDEX");
        LongestWed x = new LongestWed();
        for (int sheet = 0; sheet < 4; sheet++) {
            x.sheet(sheet, SHORTS, 3);
        }
        T.range("sheet", 0, 3, sheet -> x.item(sheet, SHORTS, 0, 4));
        T.range("lane", 0, 3, lane -> x.item(0, lane, 0, 4));
        T.due("the first", x.item(0, SHORTS, 0, 1), 1);
        T.due("the last", x.item(0, SHORTS, 2, 3), 1);
        for (int i : new int[] {-1, 3, 24, LOW, HIGH}) {
            T.due("item " + i, x.item(0, SHORTS, i, 19), INDEX);
            T.due("item " + i + " of another lane", x.item(0, BYTES, i, 19), CAST);
        }
        x.drop(2);
        T.due("of nothing", x.item(2, BYTES, -1, 19), NULL);
        row("but for those refused", x, 0, SHORTS, 1, 0, 3);
    }

    private static void itemByItsLowestBits() {
        T.says("becomes v, its lowest bits: 1");
        int[] bits = {8, 16, 32};
        for (int lane = BYTES; lane <= LONGS; lane++) {
            for (int k = 0; k < bits.length; k++) {
                boolean cut = lane <= k;
                long over = 1L << bits[k];
                long half = over >> 1;
                LongestWed x = withRowOf(lane, "p9", over + 5, 5 - over, half + 5, over - 1, over);
                row("lane " + lane + " by " + bits[k] + " bits", x, 0, lane,
                    cut ? 5 : -1, cut ? 5 : -1, lane < k ? 5 : -1, -1, cut ? 0 : -1);
            }
            boolean whole = lane == LONGS;
            LongestWed far = withRowOf(lane, "p9", Long.MIN_VALUE, Long.MAX_VALUE, Long.MIN_VALUE + 19, -1, 19);
            row("lane " + lane + ", far", far, 0, lane, whole ? -1 : 0, -1, whole ? -1 : 19, -1, 19);
        }
    }

    private static void copyIsBad() {
        T.says("BAD; NULL (either); CAST: of unlike LANES; INDEX");
        LongestWed x = new LongestWed();
        for (int sheet = 0; sheet < 4; sheet++) {
            x.sheet(sheet, INTS, 3);
        }
        T.range("from", 0, 3, from -> x.copy(from, 0, 0, 0, 1));
        T.range("to", 0, 3, to -> x.copy(0, 0, to, 0, 1));
        x.drop(1);
        x.drop(2);
        T.due("from nothing", x.copy(1, -1, 0, 0, 1), NULL);
        T.due("to nothing", x.copy(0, 0, 1, 0, -1), NULL);
        T.due("from nothing to nothing", x.copy(1, 0, 2, 0, 0), NULL);
        T.due("nothing to itself", x.copy(1, 0, 1, 0, 0), NULL);
        x.sheet(1, LONGS, 3);
        T.due("to another lane", x.copy(0, 0, 1, 0, 1), CAST);
        T.due("from another lane, outside", x.copy(1, 9, 0, -1, -1), CAST);
        T.due("another lane, no items", x.copy(1, 0, 0, 0, 0), CAST);
    }

    private static void copyAtTheRowsEnds() {
        T.says("n items of a SHEET from i on come to another one (or the same) from j on");
        int[][] outside = {{0, 0, 5}, {1, 0, 4}, {4, 0, 1}, {0, 2, 2}, {0, 3, 1}, {-1, 0, 1}, {0, -1, 1}, {0, 0, -1}, {1, 1, -1},
            {LOW, 0, 1}, {0, LOW, 1}, {HIGH, 0, 1}, {0, HIGH, 1}, {0, 0, HIGH}, {0, 0, LOW}, {HIGH, 0, HIGH}, {0, HIGH, HIGH},
            {1, 1, HIGH}, {HIGH, HIGH, HIGH}, {LOW, LOW, LOW}, {0, 0, 4}};
        LongestWed x = withRow("p9", 1, 2, 3, 4);
        x.sheet(1, LONGS, 3);
        for (int[] one : outside) {
            T.due("copy " + one[2] + " from " + one[0] + " to " + one[1], x.copy(0, one[0], 1, one[1], one[2]), INDEX);
        }
        row("none came", x, 1, LONGS, 0, 0, 0);
        LongestWed whole = withRow("p9", 1, 2, 3, 4);
        whole.sheet(1, LONGS, 3);
        T.due("three to a row of three", whole.copy(0, 1, 1, 0, 3), 3);
        row("all of it", whole, 1, LONGS, 2, 3, 4);
        row("the other stays", whole, 0, LONGS, 1, 2, 3, 4);
        LongestWed last = withRow("p9", 1, 2, 3, 4);
        last.sheet(1, LONGS, 3);
        T.due("the last to the last", last.copy(0, 3, 1, 2, 1), 1);
        row("one of it", last, 1, LONGS, 0, 0, 4);
    }

    private static void copyOfNoItems() {
        T.says("n items of a SHEET from i on");
        LongestWed x = withRow("p9", 1, 2, 3);
        x.sheet(1, LONGS, 2);
        x.sheet(2, LONGS, 0);
        T.due("none from the first", x.copy(0, 0, 1, 0, 0), 0);
        T.due("none from the end to the end", x.copy(0, 3, 1, 2, 0), 0);
        T.due("none of a row without items", x.copy(2, 0, 2, 0, 0), 0);
        T.due("none from behind the end", x.copy(0, 4, 1, 0, 0), INDEX);
        T.due("none to behind the end", x.copy(0, 0, 1, 3, 0), INDEX);
        T.due("one of a row without items", x.copy(2, 0, 0, 0, 1), INDEX);
        row("nothing came", x, 1, LONGS, 0, 0);
    }

    private static void copyWithinOne() {
        T.says("as if all were taken ahead: n");
        LongestWed up = withRow("p9", 1, 2, 3, 4);
        T.due("up", up.copy(0, 0, 0, 1, 3), 3);
        row("up", up, 0, LONGS, 1, 1, 2, 3);
        LongestWed down = withRow("p9", 1, 2, 3, 4);
        T.due("down", down.copy(0, 1, 0, 0, 3), 3);
        row("down", down, 0, LONGS, 2, 3, 4, 4);
        LongestWed same = withRow("p9", 1, 2, 3, 4);
        T.due("to its own place", same.copy(0, 0, 0, 0, 4), 4);
        row("to its own place", same, 0, LONGS, 1, 2, 3, 4);
        T.due("to behind the end of the same", same.copy(0, 0, 0, 1, 4), INDEX);
    }

    private static void copyOfEachLane() {
        T.says("CAST: of unlike LANES");
        LongestWed x = new LongestWed();
        for (int from = BYTES; from <= LONGS; from++) {
            for (int to = BYTES; to <= LONGS; to++) {
                x.sheet(0, from, 2);
                x.sheet(1, to, 2);
                T.due("lane " + from + " to lane " + to, x.copy(0, 0, 1, 0, 2), from == to ? 2 : CAST);
            }
        }
    }
}
