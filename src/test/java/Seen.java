/** All that calls can see of an object, as a text: two objects with the same text can't be told apart by calls. */
final class Seen {
    private static final int KNOWN = 8, SHEETS = 4, LANES = 4, ITEMS = 24;

    private Seen() {
    }

    /** The couples, the counts and the draw; nothing is changed. */
    static String town(LongestWed x) {
        StringBuilder b = new StringBuilder("counts");
        for (int what = 0; what <= 6; what++) {
            b.append(' ').append(x.count(what));
        }
        int couples = x.count(0);
        for (int c = 0; c < couples; c++) {
            b.append(" couple");
            for (int what = 0; what <= 5; what++) {
                b.append(' ').append(x.of(c, what));
            }
        }
        int draw = x.seed(0);
        x.seed(draw);
        return b.append(" draw ").append(draw).toString();
    }

    /** All there is, what may be undone, the image, the tape and the sheets too; the object is used up by it. */
    static String all(LongestWed x) {
        StringBuilder b = new StringBuilder(undone(x));
        b.append("\n  image ").append(x.restore()).append(' ').append(undone(x));
        b.append("\n  tape ").append(x.type('x')).append(' ').append(x.town()).append(' ').append(town(x));
        Due.tell(x, "p0x");
        return b.append("\n  sheets").append(sheets(x)).toString();
    }

    private static String undone(LongestWed x) {
        StringBuilder b = new StringBuilder(town(x));
        int left = KNOWN;
        for (int k = 0; k <= KNOWN && left >= 0; k++) {
            left = x.undo();
            b.append("\n  undone ").append(left).append(' ').append(left < 0 ? "" : town(x));
        }
        return b.toString();
    }

    /** An item 0 .. 19 is seen by what a parted couple is heard of: its temper stays, so it is that one alone. */
    private static String sheets(LongestWed x) {
        StringBuilder b = new StringBuilder();
        for (int sheet = 0; sheet < SHEETS; sheet++) {
            int lane = laneOf(x, sheet);
            b.append(" lane ").append(lane);
            int heard = 0;
            for (int i = 0; i < ITEMS && lane >= 0 && heard >= 0; i++) {
                heard = x.heard(0, sheet, lane, i, 1, 1);
                b.append(' ').append(heard);
            }
            b.append(" of ").append(x.drop(sheet));
        }
        return b.toString();
    }

    private static int laneOf(LongestWed x, int sheet) {
        for (int lane = 0; lane < LANES; lane++) {
            int heard = x.heard(0, sheet, lane, 0, 1, 1);
            if (heard != LongestWed.CAST) {
                return heard == LongestWed.NULL ? LongestWed.NULL : lane;
            }
        }
        return LongestWed.NULL;
    }
}
