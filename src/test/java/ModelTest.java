import java.util.Random;

/** Runs of 512 calls each, on a LongestWed and on the Model: every answer must be the same. */
public final class ModelTest {
    private static final int RUNS = 1500;
    private static final int CALLS = 512;
    private static final Due T = new Due();

    private final Random random;
    private final int run;
    private final LongestWed x = new LongestWed();
    private final Model m = new Model();
    private String trail = "";

    private ModelTest(int run) {
        this.run = run;
        this.random = new Random(run);
    }

    public static void main(String[] args) {
        for (int run = 0; run < RUNS; run++) {
            new ModelTest(run).play();
        }
        T.end();
    }

    private void play() {
        // Some runs are rich in deeds, some in texts, some in sheets.
        int flavour = run % 4;
        for (int k = 0; k < CALLS; k++) {
            int die = random.nextInt(20);
            if (flavour == 0 && die < 8) {
                deed(random.nextInt(11));
            } else if (flavour == 1 && die < 8) {
                text();
            } else if (flavour == 2 && die < 10) {
                onSheets(random.nextInt(6));
            } else {
                any();
            }
        }
    }

    private void any() {
        int die = random.nextInt(100);
        if (die < 35) {
            deed(random.nextInt(11));
        } else if (die < 75) {
            foretold(random.nextInt(14));
        } else if (die < 80) {
            text();
        } else {
            onSheets(random.nextInt(6));
        }
    }

    private void due(String call, int got, int want) {
        if (got != want) {
            System.out.println("run " + run + trail);
        }
        trail = " ... behind " + call;
        T.due("run " + run + ": " + call, got, want);
    }

    private String told(String name, long... numbers) {
        StringBuilder b = new StringBuilder(name).append("(");
        for (int k = 0; k < numbers.length; k++) {
            b.append(k == 0 ? "" : ", ").append(numbers[k]);
        }
        return b.append(")").toString();
    }

    /** Most often within bounds, sometimes just without, seldom far without. */
    private int number(int least, int most) {
        int die = random.nextInt(60);
        if (die == 0) return least - 1;
        if (die == 1) return most + 1;
        if (die == 2) return random.nextInt();
        if (die == 3) return random.nextBoolean() ? Integer.MAX_VALUE : Integer.MIN_VALUE;
        if (die == 4) return least;
        if (die == 5) return most;
        return least + random.nextInt(most - least + 1);
    }

    private int couple() {
        return number(0, Math.max(0, m.count(0) - 1));
    }

    private void deed(int which) {
        int c = couple();
        int few = random.nextInt(3) == 0 ? number(1, 40) : number(1, 4);
        switch (which) {
            case 0: int kind = number(0, 4), wed = number(0, 80); due(told("couple", kind, wed), x.couple(kind, wed), m.couple(kind, wed)); break;
            case 1: due(told("years", few), x.years(few), m.years(few)); break;
            case 2: int by = number(1, 19); due(told("nurse", c, by), x.nurse(c, by), m.nurse(c, by)); break;
            case 3: by = number(1, 20); due(told("stir", c, by), x.stir(c, by), m.stir(c, by)); break;
            case 4: due(told("wed", c), x.wed(c), m.wed(c)); break;
            case 5: due(told("drift", few), x.drift(few), m.drift(few)); break;
            case 6: due("undo()", x.undo(), m.undo()); break;
            case 7: int v = number(0, Integer.MAX_VALUE - 1); due(told("seed", v), x.seed(v), m.seed(v)); break;
            case 8: if (random.nextInt(3) == 0) due("image()", x.image(), m.image()); break;
            case 9: if (random.nextInt(3) == 0) due("restore()", x.restore(), m.restore()); break;
            default: everything(); break;
        }
    }

    private void everything() {
        for (int what = -1; what <= 7; what++) {
            due(told("count", what), x.count(what), m.count(what));
        }
        for (int c = 0; c < m.count(0); c++) {
            for (int what = 0; what < 6; what++) {
                due(told("of", c, what), x.of(c, what), m.of(c, what));
            }
        }
        int c = couple();
        int what = number(0, 5);
        due(told("of", c, what), x.of(c, what), m.of(c, what));
    }

    private void foretold(int which) {
        int c = couple();
        int n60 = number(0, 60);
        int n40 = number(random.nextInt(2), 40);
        int two = number(0, 1);
        switch (which) {
            case 0: due(told("keys", n60), x.keys(n60), m.keys(n60)); break;
            case 1: due(told("ahead", c, n60), x.ahead(c, n60), m.ahead(c, n60)); break;
            case 2: due(told("then", n60), x.then(n60), m.then(n60)); break;
            case 3: due(told("rises", c, two), x.rises(c, two), m.rises(c, two)); break;
            case 4: due(told("parts", c), x.parts(c), m.parts(c)); break;
            case 5: due("ever()", x.ever(), m.ever()); break;
            case 6:
                if (random.nextInt(4) == 0) due(told("rivals", c, n40, two), x.rivals(c, n40, two), m.rivals(c, n40, two));
                break;
            case 7: due(told("needs", c, n40), x.needs(c, n40), m.needs(c, n40)); break;
            case 8: due(told("soothe", n40, two), x.soothe(n40, two), m.soothe(n40, two)); break;
            case 9: due(told("start", n60), x.start(n60), m.start(n60)); break;
            case 10: if (random.nextInt(4) == 0) due(told("sum", n40), x.sum(n40), m.sum(n40)); break;
            default:
                int one = random.nextInt(4) == 0 ? -1 : c;
                int ten = number(0, 10);
                due(told("rows", one, ten, two), x.rows(one, ten, two), m.rows(one, ten, two));
                break;
        }
    }

    private void type(String text) {
        for (int k = 0; k < text.length(); k++) {
            int letter = text.charAt(k);
            due(told("type", letter), x.type(letter), m.type(letter));
        }
    }

    private void text() {
        int letter = number(32, 126);
        if (random.nextInt(10) == 0) {
            due(told("type", letter), x.type(letter), m.type(letter));
        }
        StringBuilder b = new StringBuilder();
        int couples = 1 + random.nextInt(random.nextInt(4) == 0 ? 8 : 5);
        for (int k = 0; k < couples; k++) {
            b.append(k == 0 ? "" : ",").append("pdslb".charAt(random.nextInt(5))).append(random.nextInt(81));
            if (random.nextInt(3) == 0) b.append('@').append(20 + random.nextInt(80));
            if (random.nextInt(2) == 0) b.append('~').append(random.nextInt(20));
            if (random.nextInt(4) == 0) b.append('x');
        }
        String signs = "pdslb,@~x 0123456789 ,,  q";
        int spoils = random.nextInt(4) - 1;
        for (int k = 0; k < spoils; k++) {
            int at = random.nextInt(b.length());
            int how = random.nextInt(4);
            if (how == 0 && b.length() > 1) b.deleteCharAt(at);
            else if (how == 1) b.setCharAt(at, signs.charAt(random.nextInt(signs.length())));
            else if (how == 2) b.insert(at, ' ');
            else b.insert(at, signs.charAt(random.nextInt(signs.length())));
        }
        type(b.toString());
        due("town() of " + b, x.town(), m.town());
        everything();
    }

    private void onSheets(int which) {
        int c = couple();
        int sheet = number(0, 2);
        int lane = random.nextInt(12) == 0 ? number(0, 3) : Math.min(3, Math.max(0, sheet));
        int n24 = number(random.nextInt(2), 24);
        int i = random.nextInt(3) == 0 ? number(0, 24) : number(0, 3);
        switch (which) {
            case 0: due(told("sheet", sheet, lane, n24), x.sheet(sheet, lane, n24), m.sheet(sheet, lane, n24)); break;
            case 1: if (random.nextInt(4) == 0) due(told("drop", sheet), x.drop(sheet), m.drop(sheet)); break;
            case 2:
                long v = random.nextInt(3) == 0 ? random.nextLong() : random.nextInt(20) + (random.nextInt(4) == 0 ? 256L : 0L);
                due(told("item", sheet, lane, i, v), x.item(sheet, lane, i, v), m.item(sheet, lane, i, v));
                break;
            case 3:
                int to = random.nextBoolean() ? sheet : number(0, 3);
                int j = number(0, 6);
                int few = number(0, 8);
                due(told("copy", sheet, i, to, j, few), x.copy(sheet, i, to, j, few), m.copy(sheet, i, to, j, few));
                break;
            case 4:
                int n8 = number(1, 8);
                due(told("film", c, n8, sheet, lane, i), x.film(c, n8, sheet, lane, i), m.film(c, n8, sheet, lane, i));
                int back = number(0, 3);
                due(told("heard", c, sheet, lane, i, n8, back), x.heard(c, sheet, lane, i, n8, back), m.heard(c, sheet, lane, i, n8, back));
                break;
            default:
                int n = random.nextInt(3) == 0 ? number(1, 8) : 1 + random.nextInt(2);
                int what = number(0, 3);
                due(told("heard", c, sheet, lane, i, n, what), x.heard(c, sheet, lane, i, n, what), m.heard(c, sheet, lane, i, n, what));
                break;
        }
    }
}
