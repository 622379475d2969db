import java.math.BigInteger;
import java.util.function.IntUnaryOperator;

/** What the project's tests share: a count of wrong answers and the typing of texts. */
final class Due {
    private static final int TOLD_AT_MOST = 40;
    private int asked = 0;
    private int wrong = 0;
    private String sentence = "";

    /** The words of the document that the answers asked from here on are due by. */
    void says(String words) {
        sentence = "[" + words + "] ";
    }

    void due(String call, long got, long want) {
        asked++;
        if (got != want) {
            wrong(call + " answered " + got + ", due is " + want);
        }
    }

    void bad(String call, long... got) {
        for (int k = 0; k < got.length; k++) {
            due(call + ", wrong input " + k, got[k], LongestWed.BAD);
        }
    }

    /** A number is BAD just outside of what is told of it and far outside, and at neither end within. */
    void range(String call, int least, int most, IntUnaryOperator asking) {
        bad(call + " outside " + least + " .. " + most, asking.applyAsInt(least - 1), asking.applyAsInt(most + 1),
            asking.applyAsInt(Integer.MIN_VALUE), asking.applyAsInt(Integer.MAX_VALUE));
        for (int number : new int[] {least, most}) {
            due(call + " of " + number + " is not BAD", asking.applyAsInt(number) == LongestWed.BAD ? 1 : 0, 0);
        }
    }

    /** Of a couple: what 0, 1, .. are those. */
    void of(String call, LongestWed x, int couple, int... want) {
        for (int what = 0; what < want.length; what++) {
            due(call + ": of(" + couple + ", " + what + ")", x.of(couple, what), want[what]);
        }
    }

    void same(String call, String got, String want) {
        asked++;
        if (!got.equals(want)) {
            wrong(call + " leaves\n  " + got + ", due is\n  " + want);
        }
    }

    private void wrong(String how) {
        wrong++;
        if (wrong <= TOLD_AT_MOST) {
            System.out.println(sentence + how);
        }
    }

    static void typeAll(LongestWed x, String text) {
        for (int k = 0; k < text.length(); k++) {
            x.type(text.charAt(k));
        }
    }

    static int tell(LongestWed x, String text) {
        typeAll(x, text);
        return x.town();
    }

    /** A new object with that town. */
    LongestWed town(String text) {
        LongestWed x = new LongestWed();
        int told = tell(x, text);
        if (told < 1) {
            due("town of \"" + text + "\" is one", told, 1);
        }
        return x;
    }

    /** A new object with that town in the year 9960: no couple is together any more. */
    LongestWed lateTown(String text) {
        LongestWed x = town(text);
        for (int k = 0; k < 249; k++) {
            x.years(40);
        }
        return x;
    }

    /** What THE DRAW must be for that draw to come next. */
    static int seedFor(long draw) {
        BigInteger all = BigInteger.TWO.pow(31);
        BigInteger back = BigInteger.valueOf(1103515245).modInverse(all);
        return BigInteger.valueOf(draw - 12345).multiply(back).mod(all).intValueExact();
    }

    void end() {
        System.out.println(asked + " answers asked, " + wrong + " not as due");
        if (wrong != 0) {
            System.exit(1);
        }
    }
}
