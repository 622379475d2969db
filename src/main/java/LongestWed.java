public final class LongestWed {
    public static final int BAD = -1, NOT = -2, FULL = -3, NONE = -4, NULL = -11, CAST = -12, INDEX = -13, SIZE = -14;

    private static final int MOST_COUPLES = 7;
    private static final int KINDS = 5;
    private static final int PLAIN = 0, PROUD = 1, SOUP = 2, SILENT = 3, BRICK = 4;
    private static final int MOST_TOLD_WED = 80, MOST_WED = 99;
    private static final int LEAST_OLD = 20, USUAL_OLD = 40, MOST_OLD = 99;
    private static final int MOST_TEMPER = 19, HOT_TEMPER = 10;
    private static final int LAST_YEAR = 9999;
    private static final int MOST_DONE = 40, MOST_FORETOLD = 60, MOST_PLANNED = 40;
    private static final int MOST_HEARD = 8, MOST_FILMED = 24;
    private static final int KNOWN = 8;
    private static final int LETTERS = 80;
    private static final int TOWN_FAULT = -20;
    private static final int SHEETS = 4, LANES = 4, ITEMS = 24;
    private static final int BYTES = 0, SHORTS = 1, INTS = 2;
    private static final int NOTHING = -1;
    private static final int LOW_31_BITS = 0x7fffffff;

    private final Town now = new Town();
    private final Past past = new Past();
    private final Town keptTown = new Town();
    private final Past keptPast = new Past();
    private final Tape tape = new Tape();
    private final Sheet[] sheets = new Sheet[SHEETS];
    // What is only foretold or tried is played here, so that no call makes new rows.
    private final Town trial = new Town();
    private boolean kept = false;

    public LongestWed() {
        for (int s = 0; s < SHEETS; s++) {
            sheets[s] = new Sheet();
        }
    }

    // ---- 1 couples

    public int couple(int kind, int wed) {
        if (!within(kind, 0, KINDS - 1) || !within(wed, 0, MOST_TOLD_WED)) {
            return BAD;
        }
        if (now.size >= MOST_COUPLES) {
            return FULL;
        }
        past.forget();
        return now.settle(kind, wed, USUAL_OLD, 0, true);
    }

    public int of(int couple, int what) {
        if (!isCouple(couple)) {
            return BAD;
        }
        switch (what) {
            case 0: return now.kind[couple];
            case 1: return now.since[couple];
            case 2: return now.old[couple];
            case 3: return now.temper[couple];
            case 4: return now.isTogether(couple) ? 0 : 1;
            case 5: return now.worseThisYear(couple) + 10;
            default: return BAD;
        }
    }

    public int type(int letter) {
        if (!within(letter, 32, 126)) {
            return BAD;
        }
        if (tape.size >= LETTERS) {
            return FULL;
        }
        return tape.write(letter);
    }

    public int town() {
        trial.empty();
        boolean read = tape.readTown(trial);
        tape.size = 0;
        if (!read) {
            return TOWN_FAULT - tape.fault;
        }
        trial.draw = now.draw;
        now.become(trial);
        past.forget();
        return now.size;
    }

    public int count(int what) {
        switch (what) {
            case 0: return now.size;
            case 1: return now.year;
            case 2: return now.keeper();
            case 3: return now.secondTo(now.keeper());
            case 4: return now.together;
            case 5: return now.allTempers();
            case 6: return past.size;
            default: return BAD;
        }
    }

    // ---- what is done

    public int years(int n) {
        if (!within(n, 1, MOST_DONE)) {
            return BAD;
        }
        if (now.year + n > LAST_YEAR) {
            return FULL;
        }
        for (int y = 0; y < n; y++) {
            past.note(now);
            now.passYear();
        }
        return now.keeper();
    }

    public int nurse(int couple, int n) {
        if (!isCouple(couple) || !within(n, 1, MOST_TEMPER)) {
            return BAD;
        }
        if (!now.isTogether(couple) || now.temper[couple] == 0) {
            return NOT;
        }
        past.note(now);
        now.better(couple, n);
        return now.temper[couple];
    }

    public int stir(int couple, int n) {
        if (!isCouple(couple) || !within(n, 1, MOST_TEMPER + 1)) {
            return BAD;
        }
        if (!now.isTogether(couple)) {
            return NOT;
        }
        past.note(now);
        now.worsen(couple, n);
        return now.temper[couple];
    }

    public int wed(int couple) {
        if (!isCouple(couple)) {
            return BAD;
        }
        if (now.isTogether(couple)) {
            return NOT;
        }
        past.note(now);
        now.wedAnew(couple);
        return now.keeper();
    }

    public int drift(int n) {
        if (!within(n, 1, MOST_DONE)) {
            return BAD;
        }
        if (now.year + n > LAST_YEAR) {
            return FULL;
        }
        for (int y = 0; y < n; y++) {
            past.note(now);
            now.drawNext();
            now.passYear();
        }
        return now.keeper();
    }

    public int undo() {
        if (past.size <= 0) {
            return NONE;
        }
        past.giveBack(now);
        return past.size;
    }

    public int seed(int v) {
        if (v < 0) {
            return BAD;
        }
        int was = now.draw;
        now.draw = v;
        return was;
    }

    // ---- 2 foretold

    public int keys(int n) {
        if (!within(n, 0, MOST_FORETOLD)) {
            return BAD;
        }
        trial.become(now);
        trial.passYears(n);
        return trial.keeper();
    }

    public int ahead(int couple, int n) {
        if (!isCouple(couple) || !within(n, 0, MOST_FORETOLD)) {
            return BAD;
        }
        trial.become(now);
        trial.passYears(n);
        return trial.temper[couple];
    }

    public int then(int n) {
        if (!within(n, 0, MOST_FORETOLD)) {
            return BAD;
        }
        trial.become(now);
        trial.passYears(n);
        return trial.together;
    }

    public int rises(int couple, int what) {
        if (!isCouple(couple) || !within(what, 0, 1)) {
            return BAD;
        }
        return what == 0 ? firstYearOfKeys(couple) : yearsOfKeys(couple);
    }

    public int parts(int couple) {
        if (!isCouple(couple)) {
            return BAD;
        }
        if (!now.isTogether(couple)) {
            return NONE;
        }
        trial.become(now);
        for (int y = 1; y <= MOST_FORETOLD; y++) {
            trial.passYear();
            if (!trial.isTogether(couple)) {
                return y;
            }
        }
        return NONE;
    }

    public int ever() {
        int set = 0;
        trial.become(now);
        for (int y = 0; y <= MOST_FORETOLD; y++) {
            int keeper = trial.keeper();
            if (keeper >= 0) {
                set |= 1 << keeper;
            }
            trial.passYear();
        }
        return set;
    }

    public int rivals(int couple, int n, int what) {
        if (!isCouple(couple) || !within(n, 0, MOST_PLANNED) || !within(what, 0, 1)) {
            return BAD;
        }
        int set = fewestRivals(couple, n);
        if (set < 0) {
            return NONE;
        }
        return what == 0 ? Integer.bitCount(set) : set;
    }

    public int needs(int couple, int n) {
        if (!isCouple(couple) || !within(n, 1, MOST_PLANNED)) {
            return BAD;
        }
        if (!now.isTogether(couple)) {
            return NOT;
        }
        for (int by = 0; by <= MOST_TEMPER; by++) {
            trial.become(now);
            trial.better(couple, by);
            trial.passYears(n);
            if (trial.isTogether(couple)) {
                return by;
            }
        }
        return NONE;
    }

    public int soothe(int n, int what) {
        if (!within(n, 1, MOST_PLANNED) || !within(what, 0, 1)) {
            return BAD;
        }
        int best = NONE;
        int most = NONE;
        for (int c = 0; c < now.size; c++) {
            int left = now.isTogether(c) ? togetherIfNursed(c, n) : NONE;
            if (left > most) {
                best = c;
                most = left;
            }
        }
        return what == 0 ? best : most;
    }

    public int start(int n) {
        if (!within(n, 0, MOST_FORETOLD)) {
            return BAD;
        }
        for (int c = 0; c < now.size; c++) {
            if (!now.isTogether(c) && keepsIfWedAnew(c, n)) {
                return c;
            }
        }
        return NONE;
    }

    public int sum(int n) {
        if (!within(n, 1, MOST_PLANNED)) {
            return BAD;
        }
        int all = 0;
        trial.become(now);
        for (int y = 0; y < n; y++) {
            int keeper = trial.keeper();
            if (keeper >= 0) {
                all += trial.temper[keeper];
            }
            trial.passYear();
        }
        return all;
    }

    public int rows(int couple, int c, int what) {
        boolean nobody = couple == -1;
        if (!nobody && !isCouple(couple) || !within(c, 0, 10) || !within(what, 0, 1)) {
            return BAD;
        }
        int above = nobody ? 1 : now.tenthsToStay(couple, c);
        int below = nobody ? 1 : 10;
        for (int other = 0; other < now.size; other++) {
            if (now.isTogether(other) && (nobody || now.isBefore(other, couple))) {
                above *= 10 - now.tenthsToStay(other, c);
                below *= 10;
            }
        }
        int common = commonDivisor(above, below);
        if (common <= 0) {
            return BAD;
        }
        return what == 0 ? above / common : below / common;
    }

    public int image() {
        keptTown.become(now);
        keptPast.become(past);
        kept = true;
        return 1;
    }

    public int restore() {
        if (!kept) {
            return NONE;
        }
        now.become(keptTown);
        past.become(keptPast);
        return 1;
    }

    // ---- 3 sheets

    public int heard(int couple, int sheet, int lane, int i, int n, int what) {
        if (!isCouple(couple) || !isSheet(sheet) || !isLane(lane)
                || !within(n, 1, MOST_HEARD) || !within(what, 0, 3)) {
            return BAD;
        }
        Sheet row = sheets[sheet];
        int fault = row.faultOf(lane, i, n);
        if (fault != 0) {
            return fault;
        }
        switch (what) {
            case 0: return kindsHeard(couple, row, i, n);
            case 1: return tempersHeard(couple, row, i, n);
            case 2: return howManyWedHeard(couple, row, i, n);
            default: return leastWedHeard(couple, row, i, n);
        }
    }

    public int film(int couple, int n, int sheet, int lane, int i) {
        if (!isCouple(couple) || !within(n, 1, MOST_FILMED) || !isSheet(sheet) || !isLane(lane)) {
            return BAD;
        }
        Sheet row = sheets[sheet];
        int fault = row.faultOf(lane, i, n);
        if (fault != 0) {
            return fault;
        }
        trial.become(now);
        for (int y = 0; y < n; y++) {
            trial.passYear();
            row.put(i + y, trial.temper[couple]);
        }
        return n;
    }

    public int sheet(int sheet, int lane, int n) {
        if (!isSheet(sheet) || !isLane(lane) || n > ITEMS) {
            return BAD;
        }
        if (n < 0) {
            return SIZE;
        }
        sheets[sheet].renew(lane, n);
        return n;
    }

    public int drop(int sheet) {
        if (!isSheet(sheet)) {
            return BAD;
        }
        Sheet row = sheets[sheet];
        if (row.lane == NOTHING) {
            return NULL;
        }
        row.lane = NOTHING;
        return row.size;
    }

    public int item(int sheet, int lane, int i, long v) {
        if (!isSheet(sheet) || !isLane(lane)) {
            return BAD;
        }
        Sheet row = sheets[sheet];
        int fault = row.faultOf(lane, i, 1);
        if (fault != 0) {
            return fault;
        }
        row.put(i, v);
        return 1;
    }

    public int copy(int from, int i, int to, int j, int n) {
        if (!isSheet(from) || !isSheet(to)) {
            return BAD;
        }
        Sheet source = sheets[from];
        Sheet target = sheets[to];
        if (source.lane == NOTHING || target.lane == NOTHING) {
            return NULL;
        }
        if (source.lane != target.lane) {
            return CAST;
        }
        if (!source.reaches(i, n) || !target.reaches(j, n)) {
            return INDEX;
        }
        System.arraycopy(source.items, i, target.items, j, n);
        return n;
    }

    // ---- what is tested

    private static boolean within(int number, int least, int most) {
        return number >= least && number <= most;
    }

    private boolean isCouple(int couple) {
        return couple >= 0 && couple < now.size;
    }

    private static boolean isSheet(int sheet) {
        return sheet >= 0 && sheet < SHEETS;
    }

    private static boolean isLane(int lane) {
        return lane >= 0 && lane < LANES;
    }

    // ---- what is tried

    private int firstYearOfKeys(int couple) {
        trial.become(now);
        for (int y = 0; y <= MOST_FORETOLD; y++) {
            if (trial.keeper() == couple) {
                return y;
            }
            trial.passYear();
        }
        return NONE;
    }

    private int yearsOfKeys(int couple) {
        int found = 0;
        trial.become(now);
        for (int y = 0; y <= MOST_FORETOLD; y++) {
            if (trial.keeper() == couple) {
                found++;
            }
            trial.passYear();
        }
        return found;
    }

    // Sets come in rising order, so of sets with as many the first found is the least.
    private int fewestRivals(int couple, int n) {
        if (!now.isTogether(couple)) {
            return NONE;
        }
        int others = now.together & ~(1 << couple);
        int best = NONE;
        for (int set = 0; set <= others; set++) {
            boolean open = (set & ~others) == 0;
            boolean fewer = best < 0 || Integer.bitCount(set) < Integer.bitCount(best);
            if (open && fewer && keepsWithout(set, couple, n)) {
                best = set;
            }
        }
        return best;
    }

    private boolean keepsWithout(int set, int couple, int n) {
        trial.become(now);
        trial.together &= ~set;
        // Nobody comes together again by years alone: a couple that is parted is out of it.
        for (int y = 0; y < n && trial.isTogether(couple); y++) {
            trial.passYear();
        }
        return trial.keeper() == couple;
    }

    private int togetherIfNursed(int couple, int n) {
        trial.become(now);
        trial.better(couple, 5);
        trial.passYears(n);
        return Integer.bitCount(trial.together);
    }

    private boolean keepsIfWedAnew(int couple, int n) {
        trial.become(now);
        trial.wedAnew(couple);
        trial.passYears(n);
        return trial.keeper() == couple;
    }

    private static int commonDivisor(int one, int other) {
        int a = one;
        int b = other;
        // Euclid's steps on ints stay under 64.
        for (int step = 0; step < 64 && b != 0; step++) {
            int rest = a % b;
            a = b;
            b = rest;
        }
        return a;
    }

    // ---- what is heard

    private int kindsHeard(int couple, Sheet row, int i, int n) {
        int set = 0;
        for (int kind = 0; kind < KINDS; kind++) {
            trial.become(now);
            trial.kind[couple] = kind;
            if (trialTells(couple, row, i, n)) {
                set |= 1 << kind;
            }
        }
        return set;
    }

    private int tempersHeard(int couple, Sheet row, int i, int n) {
        int set = 0;
        for (int temper = 0; temper <= MOST_TEMPER; temper++) {
            trial.become(now);
            trial.temper[couple] = temper;
            if (trialTells(couple, row, i, n)) {
                set |= 1 << temper;
            }
        }
        return set;
    }

    private int howManyWedHeard(int couple, Sheet row, int i, int n) {
        int found = 0;
        for (int wed = 0; wed <= MOST_TOLD_WED; wed++) {
            if (wedTells(couple, wed, row, i, n)) {
                found++;
            }
        }
        return found;
    }

    private int leastWedHeard(int couple, Sheet row, int i, int n) {
        for (int wed = 0; wed <= MOST_TOLD_WED; wed++) {
            if (wedTells(couple, wed, row, i, n)) {
                return wed;
            }
        }
        return NONE;
    }

    private boolean wedTells(int couple, int wed, Sheet row, int i, int n) {
        trial.become(now);
        trial.since[couple] = wed;
        return trialTells(couple, row, i, n);
    }

    private boolean trialTells(int couple, Sheet row, int i, int n) {
        for (int y = 0; y < n; y++) {
            trial.passYear();
            if (row.items[i + y] != trial.temper[couple]) {
                return false;
            }
        }
        return true;
    }

    /** All that may be undone and kept: the couples, the year, the draw. */
    private static final class Town {
        final int[] kind = new int[MOST_COUPLES];
        final int[] since = new int[MOST_COUPLES];
        final int[] old = new int[MOST_COUPLES];
        final int[] temper = new int[MOST_COUPLES];
        int size = 0;
        int together = 0;
        int year = 0;
        int draw = 1;

        void become(Town other) {
            System.arraycopy(other.kind, 0, kind, 0, MOST_COUPLES);
            System.arraycopy(other.since, 0, since, 0, MOST_COUPLES);
            System.arraycopy(other.old, 0, old, 0, MOST_COUPLES);
            System.arraycopy(other.temper, 0, temper, 0, MOST_COUPLES);
            size = other.size;
            together = other.together;
            year = other.year;
            draw = other.draw;
        }

        void empty() {
            size = 0;
            together = 0;
            year = 0;
        }

        int settle(int itsKind, int wed, int itsOld, int itsTemper, boolean isOne) {
            int couple = size;
            if (couple >= MOST_COUPLES) {
                return FULL;
            }
            kind[couple] = itsKind;
            since[couple] = wed;
            old[couple] = itsOld;
            temper[couple] = itsTemper;
            if (isOne) {
                together |= 1 << couple;
            }
            size = couple + 1;
            return couple;
        }

        boolean isTogether(int couple) {
            return (together & 1 << couple) != 0;
        }

        int keeper() {
            return longestOf(together);
        }

        int secondTo(int keeper) {
            return keeper < 0 ? NONE : longestOf(together & ~(1 << keeper));
        }

        int longestOf(int set) {
            int best = NONE;
            for (int c = 0; c < size; c++) {
                if ((set & 1 << c) != 0 && (best < 0 || since[c] > since[best])) {
                    best = c;
                }
            }
            return best;
        }

        boolean isBefore(int couple, int other) {
            return since[couple] > since[other] || since[couple] == since[other] && couple < other;
        }

        int allTempers() {
            int all = 0;
            for (int c = 0; c < size; c++) {
                if (isTogether(c)) {
                    all += temper[c];
                }
            }
            return all;
        }

        int worseThisYear(int couple) {
            int keeper = keeper();
            return isTogether(couple) ? worse(couple, keeper, secondTo(keeper)) : 0;
        }

        // The kinds below plain go by the ones above them, so those are worked out first.
        int worse(int couple, int keeper, int second) {
            boolean keeps = couple == keeper;
            int plain = keeps ? 1 : -1;
            int proud = keeps ? plain + 2 : plain;
            int soup = couple == second ? plain - 2 : plain;
            switch (kind[couple]) {
                case PROUD: return proud;
                case SOUP: return soup;
                case SILENT: return year % 2 == 0 ? proud : 0;
                case BRICK: return temper[couple] >= HOT_TEMPER ? soup + 3 : soup;
                default: return plain;
            }
        }

        void passYears(int n) {
            for (int y = 0; y < n; y++) {
                passYear();
            }
        }

        // Keeper and second are found first: the year goes by how all was ahead of it.
        void passYear() {
            int keeper = keeper();
            int second = secondTo(keeper);
            for (int c = 0; c < size; c++) {
                if (isTogether(c)) {
                    int by = worse(c, keeper, second);
                    since[c] = Math.min(MOST_WED, since[c] + 1);
                    old[c]++;
                    worsen(c, by);
                }
            }
            year++;
        }

        void better(int couple, int by) {
            temper[couple] = Math.max(0, temper[couple] - by);
        }

        void worsen(int couple, int by) {
            temper[couple] = Math.max(0, temper[couple] + by);
            if (temper[couple] > MOST_TEMPER || old[couple] > MOST_OLD) {
                together &= ~(1 << couple);
                temper[couple] = Math.min(MOST_TEMPER, temper[couple]);
                old[couple] = Math.min(MOST_OLD, old[couple]);
            }
        }

        void wedAnew(int couple) {
            together |= 1 << couple;
            since[couple] = 0;
            old[couple] = LEAST_OLD;
            temper[couple] = 0;
        }

        void drawNext() {
            draw = (draw * 1103515245 + 12345) & LOW_31_BITS;
            if (size <= 0) {
                return;
            }
            int couple = draw / 65536 % size;
            int by = draw / 128 % 7;
            if (isTogether(couple)) {
                worsen(couple, by);
            } else if (by == 0) {
                wedAnew(couple);
            }
        }

        // By how many of ten a couple is together behind a row that comes by c of ten.
        int tenthsToStay(int couple, int c) {
            if (!isTogether(couple)) {
                return 0;
            }
            return temper[couple] + 10 > MOST_TEMPER ? 10 - c : 10;
        }
    }

    /** The towns ahead of the latest deeds, as a ring: the oldest makes way. */
    private static final class Past {
        final Town[] known = new Town[KNOWN];
        int next = 0;
        int size = 0;

        Past() {
            for (int k = 0; k < KNOWN; k++) {
                known[k] = new Town();
            }
        }

        void note(Town town) {
            known[next].become(town);
            next = (next + 1) % KNOWN;
            size = Math.min(KNOWN, size + 1);
        }

        void giveBack(Town town) {
            next = (next + KNOWN - 1) % KNOWN;
            size--;
            town.become(known[next]);
        }

        void forget() {
            size = 0;
        }

        void become(Past other) {
            for (int k = 0; k < KNOWN; k++) {
                known[k].become(other.known[k]);
            }
            next = other.next;
            size = other.size;
        }
    }

    /** The letters told so far, and the reading of a town from them. */
    private static final class Tape {
        final int[] letters = new int[LETTERS];
        int size = 0;
        int place = 0;
        int fault = 0;

        int write(int letter) {
            if (size < LETTERS) {
                letters[size] = letter;
                size++;
            }
            return size;
        }

        boolean readTown(Town town) {
            place = 0;
            for (int n = 1; n <= MOST_COUPLES; n++) {
                if (!readCouple(town)) {
                    return false;
                }
                // Behind the last couple that has room a comma can't stand.
                if (n == MOST_COUPLES || !takes(',')) {
                    return isAtEnd();
                }
            }
            return false;
        }

        boolean readCouple(Town town) {
            skipBlanks();
            int kind = kindOf(letterAt(place));
            if (kind < 0) {
                fault = place;
                return false;
            }
            place++;
            int wed = readNumber(0, MOST_TOLD_WED);
            if (wed < 0) {
                return false;
            }
            int old = takes('@') ? readNumber(LEAST_OLD, MOST_OLD) : USUAL_OLD;
            if (old < 0) {
                return false;
            }
            int temper = takes('~') ? readNumber(0, MOST_TEMPER) : 0;
            if (temper < 0) {
                return false;
            }
            town.settle(kind, wed, old, temper, !takes('x'));
            return true;
        }

        // Below 0: no such number stands there, and the fault is told.
        int readNumber(int least, int most) {
            skipBlanks();
            int first = place;
            if (!isDigit(letterAt(place))) {
                fault = first;
                return BAD;
            }
            int number = letterAt(place) - '0';
            place++;
            if (isDigit(letterAt(place))) {
                number = number * 10 + letterAt(place) - '0';
                place++;
            }
            if (number < least || number > most) {
                fault = first;
                return BAD;
            }
            return number;
        }

        boolean isAtEnd() {
            skipBlanks();
            fault = place;
            return place >= size;
        }

        boolean takes(int sign) {
            skipBlanks();
            if (letterAt(place) != sign) {
                return false;
            }
            place++;
            return true;
        }

        void skipBlanks() {
            while (place < size && letterAt(place) == ' ') {
                place++;
            }
        }

        int letterAt(int at) {
            return at >= 0 && at < size && at < LETTERS ? letters[at] : NOTHING;
        }

        static boolean isDigit(int letter) {
            return letter >= '0' && letter <= '9';
        }

        static int kindOf(int letter) {
            switch (letter) {
                case 'p': return PLAIN;
                case 'd': return PROUD;
                case 's': return SOUP;
                case 'l': return SILENT;
                case 'b': return BRICK;
                default: return NOTHING;
            }
        }
    }

    /** A row of a lane, or nothing; its items are held as longs, cut to the lane's bits. */
    private static final class Sheet {
        final long[] items = new long[ITEMS];
        int lane = NOTHING;
        int size = 0;

        void renew(int newLane, int n) {
            for (int k = 0; k < ITEMS; k++) {
                items[k] = 0;
            }
            lane = newLane;
            size = n;
        }

        // 0: n items from i on can be taken as a row of that lane.
        int faultOf(int asLane, int i, int n) {
            if (lane == NOTHING) {
                return NULL;
            }
            if (lane != asLane) {
                return CAST;
            }
            return reaches(i, n) ? 0 : INDEX;
        }

        boolean reaches(int i, int n) {
            return i >= 0 && n >= 0 && i <= size - n;
        }

        void put(int i, long v) {
            if (i >= 0 && i < size) {
                items[i] = lowestBits(v);
            }
        }

        long lowestBits(long v) {
            switch (lane) {
                case BYTES: return (byte) v;
                case SHORTS: return (short) v;
                case INTS: return (int) v;
                default: return v;
            }
        }
    }
}
