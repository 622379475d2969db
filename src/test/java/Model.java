import java.math.BigInteger;
import java.util.ArrayDeque;
import java.util.ArrayList;
import java.util.Arrays;
import java.util.Comparator;
import java.util.Deque;
import java.util.List;
import java.util.Optional;

/**
 * The document told a second time, without regard to speed or room: towns never change, each deed makes a new one.
 */
final class Model {
    static final int BAD = -1, NOT = -2, FULL = -3, NONE = -4, NULL = -11, CAST = -12, INDEX = -13, SIZE = -14;

    /** How it goes with a couple of a kind; the kinds stand below one another as the document tells them. */
    static class Plain {
        int worse(View v) {
            return v.keys ? 1 : -1;
        }
    }

    static class Proud extends Plain {
        @Override int worse(View v) {
            return super.worse(v) + (v.keys ? 2 : 0);
        }
    }

    static class Soup extends Plain {
        @Override int worse(View v) {
            return super.worse(v) - (v.second ? 2 : 0);
        }
    }

    static class Silent extends Proud {
        @Override int worse(View v) {
            return v.year % 2 == 0 ? super.worse(v) : 0;
        }
    }

    static class Brick extends Soup {
        @Override int worse(View v) {
            return super.worse(v) + (v.temper >= 10 ? 3 : 0);
        }
    }

    static final List<Plain> KINDS = List.of(new Plain(), new Proud(), new Soup(), new Silent(), new Brick());

    record View(boolean keys, boolean second, int year, int temper) { }

    record Couple(int number, int kind, int wed, int old, int temper, boolean parted) {
        Couple afterYear(int worse) {
            int t = Math.max(0, temper + worse);
            int o = old + 1;
            boolean gone = t >= 20 || o >= 100;
            return new Couple(number, kind, Math.min(99, wed + 1), Math.min(99, o), Math.min(19, t), gone);
        }

        Couple nursed(int n) {
            return new Couple(number, kind, wed, old, Math.max(0, temper - n), parted);
        }

        Couple stirred(int n) {
            int t = temper + n;
            return new Couple(number, kind, wed, old, Math.min(19, t), t >= 20);
        }

        Couple anew() {
            return new Couple(number, kind, 0, 20, 0, false);
        }

        Couple apart() {
            return new Couple(number, kind, wed, old, temper, true);
        }

        Couple ofKind(int k) {
            return new Couple(number, k, wed, old, temper, parted);
        }

        Couple inTemper(int t) {
            return new Couple(number, kind, wed, old, t, parted);
        }

        Couple wedSince(int w) {
            return new Couple(number, kind, w, old, temper, parted);
        }
    }

    record Town(List<Couple> couples, int year, long draw) {
        List<Couple> ranked() {
            List<Couple> all = new ArrayList<>(couples.stream().filter(c -> !c.parted).toList());
            all.sort(Comparator.comparingInt((Couple c) -> -c.wed).thenComparingInt(c -> c.number));
            return all;
        }

        int rank(int which) {
            List<Couple> all = ranked();
            return all.size() > which ? all.get(which).number : NONE;
        }

        int keys() {
            return rank(0);
        }

        int worse(Couple c) {
            View view = new View(c.number == keys(), c.number == rank(1), year, c.temper);
            return c.parted ? 0 : KINDS.get(c.kind).worse(view);
        }

        Town nextYear() {
            List<Couple> then = couples.stream().map(c -> c.parted ? c : c.afterYear(worse(c))).toList();
            return new Town(then, year + 1, draw);
        }

        Town after(int n) {
            Town t = this;
            for (int k = 0; k < n; k++) {
                t = t.nextYear();
            }
            return t;
        }

        Town with(Couple c) {
            List<Couple> all = new ArrayList<>(couples);
            all.set(c.number, c);
            return new Town(all, year, draw);
        }

        Town drawn(long v) {
            return new Town(couples, year, v);
        }

        int together() {
            return couples.stream().filter(c -> !c.parted).mapToInt(c -> 1 << c.number).sum();
        }

        Town driftYear() {
            BigInteger next = BigInteger.valueOf(draw).multiply(BigInteger.valueOf(1103515245)).add(BigInteger.valueOf(12345));
            long d = next.mod(BigInteger.TWO.pow(31)).longValueExact();
            Town t = drawn(d);
            if (!couples.isEmpty()) {
                Couple c = couples.get((int) (d / 65536 % couples.size()));
                int by = (int) (d / 128 % 7);
                if (!c.parted) {
                    t = t.with(c.stirred(by));
                } else if (by == 0) {
                    t = t.with(c.anew());
                }
            }
            return t.nextYear();
        }
    }

    private Town town = new Town(List.of(), 0, 1);
    private Deque<Town> past = new ArrayDeque<>();
    private Town keptTown = null;
    private Deque<Town> keptPast = null;
    private String tape = "";
    private final Object[] sheets = new Object[4];

    private boolean no(int c) {
        return c < 0 || c >= town.couples.size();
    }

    private static boolean out(int v, int least, int most) {
        return v < least || v > most;
    }

    private void done(Town then) {
        past.addLast(town);
        if (past.size() > 8) {
            past.removeFirst();
        }
        town = then;
    }

    int couple(int kind, int wed) {
        if (out(kind, 0, 4) || out(wed, 0, 80)) return BAD;
        int number = town.couples.size();
        if (number == 7) return FULL;
        List<Couple> all = new ArrayList<>(town.couples);
        all.add(new Couple(number, kind, wed, 40, 0, false));
        town = new Town(all, town.year, town.draw);
        past.clear();
        return number;
    }

    int of(int couple, int what) {
        if (no(couple) || out(what, 0, 5)) return BAD;
        Couple c = town.couples.get(couple);
        return new int[] {c.kind, c.wed, c.old, c.temper, c.parted ? 1 : 0, 10 + town.worse(c)}[what];
    }

    int type(int letter) {
        if (out(letter, 32, 126)) return BAD;
        if (tape.length() == 80) return FULL;
        tape += (char) letter;
        return tape.length();
    }

    int town() {
        Clerk clerk = new Clerk(tape);
        tape = "";
        clerk.read();
        if (clerk.fault >= 0) return -20 - clerk.fault;
        town = new Town(clerk.couples, 0, town.draw);
        past.clear();
        return clerk.couples.size();
    }

    /** Reads a text sign by sign by what may come next, a state a sign. */
    static final class Clerk {
        final String text;
        final List<Couple> couples = new ArrayList<>();
        int fault = -1;
        private String state = "kind";
        private int kind, wed, old, temper;
        private boolean parted;
        private String digits = "";
        private int firstDigit;

        Clerk(String text) {
            this.text = text;
        }

        void read() {
            for (int k = 0; k < text.length() && fault < 0; k++) {
                char sign = text.charAt(k);
                if (!digits.isEmpty() && (!Character.isDigit(sign) || digits.length() == 2)) {
                    endNumber();
                }
                if (fault < 0 && sign != ' ') {
                    take(sign, k);
                }
            }
            if (fault < 0 && !digits.isEmpty()) {
                endNumber();
            }
            if (fault < 0 && (state.equals("kind") || state.startsWith("number"))) {
                fault = text.length();
            }
            if (fault < 0) {
                endCouple();
            }
        }

        private void take(char sign, int place) {
            if (state.startsWith("number")) {
                takeDigit(sign, place);
            } else if (state.equals("kind")) {
                takeKind(sign, place);
            } else if (sign == '@' && state.equals("behind wed")) {
                state = "number old";
            } else if (sign == '~' && (state.equals("behind wed") || state.equals("behind old"))) {
                state = "number temper";
            } else if (sign == 'x' && !state.equals("behind x")) {
                parted = true;
                state = "behind x";
            } else if (sign == ',' && couples.size() < 6) {
                endCouple();
                state = "kind";
            } else {
                fault = place;
            }
        }

        private void takeKind(char sign, int place) {
            kind = "pdslb".indexOf(sign);
            if (kind < 0) {
                fault = place;
                return;
            }
            old = 40;
            temper = 0;
            parted = false;
            state = "number wed";
        }

        private void takeDigit(char sign, int place) {
            if (!Character.isDigit(sign)) {
                fault = place;
                return;
            }
            if (digits.isEmpty()) {
                firstDigit = place;
            }
            digits += sign;
        }

        private void endNumber() {
            int number = Integer.parseInt(digits);
            digits = "";
            boolean right;
            if (state.equals("number wed")) {
                wed = number;
                right = number <= 80;
                state = "behind wed";
            } else if (state.equals("number old")) {
                old = number;
                right = number >= 20;
                state = "behind old";
            } else {
                temper = number;
                right = number <= 19;
                state = "behind temper";
            }
            if (!right) {
                fault = firstDigit;
            }
        }

        private void endCouple() {
            couples.add(new Couple(couples.size(), kind, wed, old, temper, parted));
        }
    }

    int count(int what) {
        if (out(what, 0, 6)) return BAD;
        int tempers = town.couples.stream().filter(c -> !c.parted).mapToInt(c -> c.temper).sum();
        return new int[] {town.couples.size(), town.year, town.keys(), town.rank(1), town.together(), tempers,
            past.size()}[what];
    }

    int years(int n) {
        if (out(n, 1, 40)) return BAD;
        if (town.year + n > 9999) return FULL;
        for (int k = 0; k < n; k++) {
            done(town.nextYear());
        }
        return town.keys();
    }

    int nurse(int couple, int n) {
        if (no(couple) || out(n, 1, 19)) return BAD;
        Couple c = town.couples.get(couple);
        if (c.parted || c.temper == 0) return NOT;
        done(town.with(c.nursed(n)));
        return of(couple, 3);
    }

    int stir(int couple, int n) {
        if (no(couple) || out(n, 1, 20)) return BAD;
        Couple c = town.couples.get(couple);
        if (c.parted) return NOT;
        done(town.with(c.stirred(n)));
        return of(couple, 3);
    }

    int wed(int couple) {
        if (no(couple)) return BAD;
        Couple c = town.couples.get(couple);
        if (!c.parted) return NOT;
        done(town.with(c.anew()));
        return town.keys();
    }

    int drift(int n) {
        if (out(n, 1, 40)) return BAD;
        if (town.year + n > 9999) return FULL;
        for (int k = 0; k < n; k++) {
            done(town.driftYear());
        }
        return town.keys();
    }

    int undo() {
        if (past.isEmpty()) return NONE;
        town = past.removeLast();
        return past.size();
    }

    int seed(int v) {
        if (v < 0) return BAD;
        int was = (int) town.draw;
        town = town.drawn(v);
        return was;
    }

    int keys(int n) {
        return out(n, 0, 60) ? BAD : town.after(n).keys();
    }

    int ahead(int couple, int n) {
        return no(couple) || out(n, 0, 60) ? BAD : town.after(n).couples.get(couple).temper;
    }

    int then(int n) {
        return out(n, 0, 60) ? BAD : town.after(n).together();
    }

    /** Who has the keys behind 0, 1, .. 60 years. */
    private int[] keepers() {
        int[] keepers = new int[61];
        Town t = town;
        for (int k = 0; k <= 60; k++) {
            keepers[k] = t.keys();
            t = t.nextYear();
        }
        return keepers;
    }

    int rises(int couple, int what) {
        if (no(couple) || out(what, 0, 1)) return BAD;
        int[] keepers = keepers();
        if (what == 1) return (int) Arrays.stream(keepers).filter(k -> k == couple).count();
        for (int k = 0; k <= 60; k++) {
            if (keepers[k] == couple) return k;
        }
        return NONE;
    }

    int parts(int couple) {
        if (no(couple)) return BAD;
        if (town.couples.get(couple).parted) return NONE;
        Town t = town;
        for (int k = 1; k <= 60; k++) {
            t = t.nextYear();
            if (t.couples.get(couple).parted) return k;
        }
        return NONE;
    }

    int ever() {
        return Arrays.stream(keepers()).filter(k -> k >= 0).map(k -> 1 << k).reduce(0, (a, b) -> a | b);
    }

    int rivals(int couple, int n, int what) {
        if (no(couple) || out(n, 0, 40) || out(what, 0, 1)) return BAD;
        List<Integer> sets = new ArrayList<>();
        for (int set = 0; set < 1 << town.couples.size(); set++) {
            Town t = town;
            for (Couple c : town.couples) {
                t = (set >> c.number & 1) == 1 ? t.with(c.apart()) : t;
            }
            if ((set >> couple & 1) == 0 && t.after(n).keys() == couple) {
                sets.add(set);
            }
        }
        Optional<Integer> best = sets.stream().min(Comparator.comparing((Integer s) -> Integer.bitCount(s)).thenComparing(s -> s));
        return best.map(s -> what == 0 ? Integer.bitCount(s) : s).orElse(NONE);
    }

    int needs(int couple, int n) {
        if (no(couple) || out(n, 1, 40)) return BAD;
        Couple c = town.couples.get(couple);
        if (c.parted) return NOT;
        for (int by = 0; by < 20; by++) {
            if (!town.with(c.nursed(by)).after(n).couples.get(couple).parted) return by;
        }
        return NONE;
    }

    int soothe(int n, int what) {
        if (out(n, 1, 40) || out(what, 0, 1)) return BAD;
        int which = NONE;
        int most = NONE;
        for (Couple c : town.couples) {
            int left = c.parted ? NONE : Integer.bitCount(town.with(c.nursed(5)).after(n).together());
            if (left > most) {
                which = c.number;
                most = left;
            }
        }
        return what == 0 ? which : most;
    }

    int start(int n) {
        if (out(n, 0, 60)) return BAD;
        return town.couples.stream().filter(c -> c.parted && town.with(c.anew()).after(n).keys() == c.number)
            .mapToInt(c -> c.number).findFirst().orElse(NONE);
    }

    int sum(int n) {
        if (out(n, 1, 40)) return BAD;
        int all = 0;
        for (int k = 0; k < n; k++) {
            Town t = town.after(k);
            all += t.keys() < 0 ? 0 : t.couples.get(t.keys()).temper;
        }
        return all;
    }

    /** Every way in which rows may come, each with its weight of 10 to the 7th. */
    int rows(int couple, int c, int what) {
        if (couple < -1 || couple >= town.couples.size() || out(c, 0, 10) || out(what, 0, 1)) return BAD;
        long above = 0;
        for (int set = 0; set < 128; set++) {
            Town t = town;
            long weight = 1;
            for (int k = 0; k < 7; k++) {
                boolean row = (set >> k & 1) == 1;
                weight *= row ? c : 10 - c;
                if (row && k < town.couples.size() && !town.couples.get(k).parted) {
                    t = t.with(town.couples.get(k).stirred(10));
                }
            }
            if (t.keys() == (couple == -1 ? NONE : couple)) {
                above += weight;
            }
        }
        BigInteger all = BigInteger.TEN.pow(7);
        BigInteger part = BigInteger.valueOf(above);
        return (what == 0 ? part : all).divide(part.gcd(all)).intValueExact();
    }

    int image() {
        keptTown = town;
        keptPast = new ArrayDeque<>(past);
        return 1;
    }

    int restore() {
        if (keptTown == null) return NONE;
        town = keptTown;
        past = new ArrayDeque<>(keptPast);
        return 1;
    }

    /** What the machine finds when the sheet is taken as a row of that lane; 0: nothing. */
    private int found(int sheet, int lane, long i, long n) {
        if (sheets[sheet] == null) return NULL;
        if (sheets[sheet].getClass() != newRow(lane, 0).getClass()) return CAST;
        return i < 0 || i + n > java.lang.reflect.Array.getLength(sheets[sheet]) ? INDEX : 0;
    }

    private static Object newRow(int lane, int n) {
        return lane == 0 ? new byte[n] : lane == 1 ? new short[n] : lane == 2 ? new int[n] : new long[n];
    }

    private static void put(Object row, int i, long v) {
        if (row instanceof byte[] b) b[i] = (byte) v;
        if (row instanceof short[] s) s[i] = (short) v;
        if (row instanceof int[] k) k[i] = (int) v;
        if (row instanceof long[] l) l[i] = v;
    }

    private boolean tells(Town t, int couple, Object row, int i, int n) {
        for (int k = 0; k < n; k++) {
            if (java.lang.reflect.Array.getLong(row, i + k) != t.after(k + 1).couples.get(couple).temper) return false;
        }
        return true;
    }

    int heard(int couple, int sheet, int lane, int i, int n, int what) {
        if (no(couple) || out(sheet, 0, 3) || out(lane, 0, 3) || out(n, 1, 8) || out(what, 0, 3)) return BAD;
        int found = found(sheet, lane, i, n);
        if (found != 0) return found;
        Object row = sheets[sheet];
        Couple c = town.couples.get(couple);
        List<Integer> told = new ArrayList<>();
        for (int k = 0; k < new int[] {5, 20, 81, 81}[what]; k++) {
            Couple other = what == 0 ? c.ofKind(k) : what == 1 ? c.inTemper(k) : c.wedSince(k);
            if (tells(town.with(other), couple, row, i, n)) {
                told.add(k);
            }
        }
        if (what == 2) return told.size();
        if (what == 3) return told.isEmpty() ? NONE : told.get(0);
        return told.stream().mapToInt(k -> 1 << k).sum();
    }

    int film(int couple, int n, int sheet, int lane, int i) {
        if (no(couple) || out(n, 1, 24) || out(sheet, 0, 3) || out(lane, 0, 3)) return BAD;
        int found = found(sheet, lane, i, n);
        if (found != 0) return found;
        for (int k = 1; k <= n; k++) {
            put(sheets[sheet], i + k - 1, town.after(k).couples.get(couple).temper);
        }
        return n;
    }

    int sheet(int sheet, int lane, int n) {
        if (out(sheet, 0, 3) || out(lane, 0, 3) || n > 24) return BAD;
        if (n < 0) return SIZE;
        sheets[sheet] = newRow(lane, n);
        return n;
    }

    int drop(int sheet) {
        if (out(sheet, 0, 3)) return BAD;
        if (sheets[sheet] == null) return NULL;
        int had = java.lang.reflect.Array.getLength(sheets[sheet]);
        sheets[sheet] = null;
        return had;
    }

    int item(int sheet, int lane, int i, long v) {
        if (out(sheet, 0, 3) || out(lane, 0, 3)) return BAD;
        int found = found(sheet, lane, i, 1);
        if (found != 0) return found;
        put(sheets[sheet], i, v);
        return 1;
    }

    int copy(int from, int i, int to, int j, int n) {
        if (out(from, 0, 3) || out(to, 0, 3)) return BAD;
        try {
            System.arraycopy(sheets[from], i, sheets[to], j, n);
            return n;
        } catch (NullPointerException e) {
            return NULL;
        } catch (ArrayStoreException e) {
            return CAST;
        } catch (IndexOutOfBoundsException e) {
            return INDEX;
        }
    }
}
