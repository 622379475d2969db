/** What the project's tests share: a count of wrong answers and the typing of texts. */
final class Due {
    private static final int TOLD_AT_MOST = 40;
    private int asked = 0;
    private int wrong = 0;

    void due(String call, long got, long want) {
        asked++;
        if (got != want) {
            wrong++;
            if (wrong <= TOLD_AT_MOST) {
                System.out.println(call + " answered " + got + ", due is " + want);
            }
        }
    }

    void bad(String call, long... got) {
        for (int k = 0; k < got.length; k++) {
            due(call + ", wrong input " + k, got[k], LongestWed.BAD);
        }
    }

    static void typeAll(LongestWed x, String text) {
        for (int k = 0; k < text.length(); k++) {
            x.type(text.charAt(k));
        }
    }

    static int tell(LongestWed x, String text) {
        typeAll(x, text);
        return x.town();
    }

    /** A new object with that town. */
    LongestWed town(String text) {
        LongestWed x = new LongestWed();
        int told = tell(x, text);
        if (told < 1) {
            due("town of \"" + text + "\" is one", told, 1);
        }
        return x;
    }

    void end() {
        System.out.println(asked + " answers asked, " + wrong + " not as due");
        if (wrong != 0) {
            System.exit(1);
        }
    }
}
