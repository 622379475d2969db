/** Boundary cases of what 'Terms' says of a TOWN as a TEXT, and of promises 4 and 5. */
public final class BoundariesTextsTest {
    private static final Due T = new Due();
    private static final int FULL = -3, NONE = -4;

    public static void main(String[] args) {
        lettersThatAreBad();
        tapeThatIsFull();
        tapeIsEmptyThen();
        howManyCouples();
        kindsByLetter();
        wedInAText();
        oldInAText();
        temperInAText();
        partedInAText();
        eachInItsPlace();
        inPlaceOfAll();
        aThirdDigit();
        letterThatCannotStandThere();
        numberNotAsTold();
        theEnd();
        blanks();
        T.end();
    }

    /** The text is a town of so many couples. */
    private static LongestWed right(String text, int couples) {
        LongestWed x = new LongestWed();
        T.due("\"" + text + "\"", Due.tell(x, text), couples);
        T.due("\"" + text + "\": couples", x.count(0), couples);
        return x;
    }

    /** The text has its fault at that place, and no town comes of it. */
    private static void fault(String text, int place) {
        LongestWed x = new LongestWed();
        T.due("\"" + text + "\"", Due.tell(x, text), -20 - place);
        T.due("\"" + text + "\": couples", x.count(0), 0);
    }

    private static void of(String text, int what, int want) {
        T.due("\"" + text + "\": of(0, " + what + ")", right(text, 1).of(0, what), want);
    }

    private static void lettersThatAreBad() {
        T.says("BAD: not 32 .. 126; FULL: 80");
        T.range("letter", 32, 126, letter -> new LongestWed().type(letter));
        LongestWed x = new LongestWed();
        x.type(31);
        x.type(127);
        T.due("a letter behind bad ones", x.type('p'), 1);
        T.bad("a letter by its lowest bits", x.type('p' + 256), x.type('p' - 256), x.type('p' + 65536));
    }

    private static void tapeThatIsFull() {
        T.says("BAD: not 32 .. 126; FULL: 80");
        LongestWed x = new LongestWed();
        String text = "p1" + " ".repeat(77) + "x";
        for (int k = 0; k < 80; k++) {
            T.due("letter " + k, x.type(text.charAt(k)), k + 1);
        }
        T.due("the 81st letter", x.type('x'), FULL);
        T.due("once more", x.type('q'), FULL);
        T.bad("ahead of full", x.type(31), x.type(127));
        T.due("the 80 letters", x.town(), 1);
        T.due("the 80th too", x.of(0, 4), 1);
        T.says("One letter more behind THE TAPE: how many it has");
        T.due("the first again", x.type('p'), 1);
        T.due("the second", x.type('p'), 2);
    }

    private static void tapeIsEmptyThen() {
        T.says("THE TAPE, which is empty then, is a TOWN: how many COUPLES");
        LongestWed x = new LongestWed();
        T.due("a town", Due.tell(x, "p1,p2"), 2);
        T.due("the tape is empty then", x.town(), -20);
        T.due("the town stays", x.count(0), 2);
        T.due("a fault", Due.tell(x, "p1,q"), -23);
        T.due("the tape is empty then too", x.type('d'), 1);
        T.due("a number behind it", x.type('7'), 2);
        T.due("another town", x.town(), 1);
    }

    private static void howManyCouples() {
        T.says("1 to 7 COUPLES with , between");
        fault("", 0);
        right("p1", 1);
        right("p1,p2,p3,p4,p5,p6,p7", 7);
        fault("p1,p2,p3,p4,p5,p6,p7,p8", 20);
        fault("p1,p2,p3,p4,p5,p6,p7,", 20);
        fault("p1,p2,p3,p4,p5,p6,p7 , p8", 21);
        fault("p1,p2,p3,p4,p5,p6,p", 19);
        fault(",p1", 0);
        fault("p1,", 3);
        fault("p1,,p2", 3);
        fault("p1p2", 2);
        fault("p1;p2", 2);
        LongestWed longest = right("b80@99~19x,b80@99~19x,b80@99~19x,b80@99~19x,b80@99~19x,b80@99~19x,b80@99~19x", 7);
        T.due("the last of the longest text", longest.of(6, 2), 99);
    }

    private static void kindsByLetter() {
        T.says("p d s l b (PLAIN, PROUD, SOUP, SILENT, BRICK)");
        String letters = "pdslb";
        for (int sign = 33; sign <= 126; sign++) {
            int kind = letters.indexOf(sign);
            if (kind >= 0) {
                of((char) sign + "1", 0, kind);
            } else {
                fault((char) sign + "1", 0);
            }
        }
    }

    private static void wedInAText() {
        T.says("a number 0 .. 80 (WED)");
        of("p0", 1, 0);
        of("p00", 1, 0);
        of("p80", 1, 80);
        of("p08", 1, 8);
        fault("p81", 1);
        fault("p99", 1);
        fault("p", 1);
        fault("p-1", 1);
        fault("p@20", 1);
        fault("px", 1);
        fault("p,p1", 1);
    }

    private static void oldInAText() {
        T.says("then perhaps @ and a number 20 .. 99 (OLD; else 40)");
        of("p1", 2, 40);
        of("p1~2", 2, 40);
        of("p1@20", 2, 20);
        of("p1@99", 2, 99);
        fault("p1@19", 3);
        fault("p1@0", 3);
        fault("p1@9", 3);
        fault("p1@00", 3);
        fault("p1@x", 3);
        fault("p1@~1", 3);
        fault("p1@@20", 3);
    }

    private static void temperInAText() {
        T.says("perhaps ~ and a number 0 .. 19 (TEMPER; else 0)");
        of("p1", 3, 0);
        of("p1@20", 3, 0);
        of("p1~0", 3, 0);
        of("p1~19", 3, 19);
        of("p1@20~19", 3, 19);
        fault("p1~20", 3);
        fault("p1~99", 3);
        fault("p1~x", 3);
        fault("p1~,p1", 3);
    }

    private static void partedInAText() {
        T.says("perhaps x (PARTED)");
        of("p1", 4, 0);
        of("p1x", 4, 1);
        of("p1@20x", 4, 1);
        of("p1~19x", 4, 1);
        fault("x", 0);
        fault("p1xx", 3);
        fault("p1x1", 3);
        fault("p1X", 2);
        T.due("nobody has the keys", right("p1x,p2x", 2).count(2), NONE);
    }

    private static void eachInItsPlace() {
        T.says("then perhaps @ and a number");
        fault("p1~5@30", 4);
        fault("p1x@30", 3);
        fault("p1@30@30", 5);
        T.says("perhaps ~ and a number");
        fault("p1x~3", 3);
        fault("p1~1~1", 4);
        fault("p1@20~1@20", 7);
    }

    private static void inPlaceOfAll() {
        T.says("in place of all; YEAR 0 (THE DRAW stays)");
        LongestWed x = T.town("p9,d8,s7,l6,b5");
        x.seed(2147483647);
        x.years(3);
        T.due("one in place of five", Due.tell(x, "s2"), 1);
        T.same("all of it", Seen.town(x), "counts 1 0 0 -4 1 0 0 couple 2 2 40 0 0 11 draw 2147483647");
        T.bad("the second is no more", x.of(1, 0), x.of(4, 0));
        T.due("a couple behind it", x.couple(0, 1), 1);
        T.says("a TOWN told, a new COUPLE leave nothing to be UNDONE");
        T.due("nothing to be undone", x.undo(), NONE);
    }

    private static void aThirdDigit() {
        T.says("Numbers have 1 or 2 digits (a third one can't stand there)");
        fault("p000", 3);
        fault("p080", 3);
        fault("p800", 3);
        fault("p1@200", 5);
        fault("p1@999", 5);
        fault("p1~000", 5);
        fault("p1~019", 5);
        fault("p1~190", 5);
        of("p01@20~01", 3, 1);
    }

    private static void letterThatCannotStandThere() {
        T.says("-20 less the place of the first letter (behind blanks) that can't stand there");
        fault("q", 0);
        fault("  q", 2);
        fault("p  q", 3);
        fault("p1  q", 4);
        fault("p1  ,  q", 7);
        fault("p1 @  q", 6);
        fault("p1 ~  q", 6);
        fault("p1 x  x", 6);
        fault("p1 x ,  ,", 8);
        fault("qqq", 0);
        T.due("the last of 80", Due.tell(new LongestWed(), "p1" + " ".repeat(77) + "q"), -99);
    }

    private static void numberNotAsTold() {
        T.says("or of the number's first digit, if it is not as told");
        fault("p81", 1);
        fault("p 81", 2);
        fault("p81q", 1);
        fault("p810", 1);
        fault("p1@ 19", 4);
        fault("p1@100", 3);
        fault("p1@020", 3);
        fault("p1 ~  20", 6);
        fault("p1~200", 3);
        fault("p1,p2,d99", 7);
    }

    private static void theEnd() {
        T.says("(the end: how many there are)");
        fault("", 0);
        fault(" ", 1);
        fault("   ", 3);
        fault("p", 1);
        fault("p  ", 3);
        fault("p1@", 3);
        fault("p1@ ", 4);
        fault("p1~", 3);
        fault("p1,", 3);
        fault("p1 , ", 5);
        T.due("80 blanks", Due.tell(new LongestWed(), " ".repeat(80)), -100);
        T.due("a comma and blanks to the 80th", Due.tell(new LongestWed(), "p1," + " ".repeat(77)), -100);
    }

    private static void blanks() {
        T.says("blanks count for nothing, but end a number");
        LongestWed x = right("  p  80  @  99  ~  19  x  ,  b  0  ", 2);
        int[] want = {0, 80, 99, 19, 1};
        for (int what = 0; what < want.length; what++) {
            T.due("with blanks: of(0, " + what + ")", x.of(0, what), want[what]);
        }
        fault("p8 0", 3);
        fault("p 8 0", 4);
        fault("p1@2 0", 3);
        fault("p1@20 0", 6);
        fault("p1@9 9", 3);
        fault("p1~1 9", 5);
        of("p1 ", 1, 1);
        of(" p1", 1, 1);
        right("p1x ", 1);
        right("p1,p2,p3,p4,p5,p6,p7  ", 7);
        right("p1,p2,p3,p4,p5,p6,p7x  ", 7);
        fault("p1,p2,p3,p4,p5,p6,p7x  q", 23);
    }
}
