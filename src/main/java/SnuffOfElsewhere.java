/** A set of gentlemen who take pinches of elsewhere; ../shared/DOC.md says what each call does. */
public final class SnuffOfElsewhere {
    public static final int NONE = -1, BAD = -2, STATE = -3, FULL = -4;
    public static final long NO = -4611686018427387904L;

    private static final int NO_ONE = -5, NO_SORT = -6, NO_WHAT = -7;
    private static final int MISSING = -11, OUTSIDE = -12, UNLIKE = -13, BELOW = -14;
    private static final int NOT_ASKED = -1000, NO_PINCH = -5000, NO_PINCH_WHAT = -7000;
    private static final int FAULT = -100;

    private static final int ALL = 6, SORTS = 8;
    private static final int MOST_GRAINS = 9, MOST_MORE = 9, MOST_WIT = 99, LAST_MINUTE = 999;
    private static final int HERE = -1;
    private static final int GENTLEMAN = 0, WIT = 1, LADY = 2, OLD = 3, FOOTMAN = 4, HORN = 5, KINDS = 6;

    private static final int GONE = 0, GAINS = 1, SPILLS = 2, PARTS = 3;
    private static final int MOST_GONE = 99, MOST_GAINS = 99, MOST_SPILLS = 9;
    private static final int TEXTS = 6, TAPE = 160, MOST_OPEN = 5, MOST_DIGITS = 4;
    private static final String FIRST_TEXT = "gone 3 + sort ; gains sort * 2 ; spills 0 ;";

    private static final int SHEETS = 4, SHEET_SORTS = 3, CELLS = 40;
    private static final int MOST_PLAN = 60, MOST_TOUR = 200, MOST_DRAWN = 60;
    private static final int LAST_SEED = 99999, MOST_SEEDS = 40, ODDS_MINUTES = 20, MOST_LEAST = 999;
    private static final long LOT_TIMES = 48271L, LOT_MODULO = 2147483647L;

    private final Text[] texts;
    private int textCount;
    private final Tape tape;
    private final Company now;
    private final Company thought;
    private final Company kept;
    private boolean hasImage;
    private final Sheet[] sheets;
    private final int[] best;

    public SnuffOfElsewhere() {
        Text[] shelf = new Text[TEXTS];
        int[] stack = new int[TAPE];
        tape = new Tape();
        for (int i = 0; i < FIRST_TEXT.length(); i++) {
            tape.add(FIRST_TEXT.charAt(i));
        }
        if (tape.isText()) {
            shelf[0] = tape.asText();
        }
        tape.size = 0;
        texts = shelf;
        textCount = 1;
        now = new Company(shelf, stack);
        thought = new Company(shelf, stack);
        kept = new Company(shelf, stack);
        Sheet[] rows = new Sheet[SHEETS];
        for (int s = 0; s < SHEETS; s++) {
            rows[s] = new Sheet();
        }
        sheets = rows;
        best = new int[MOST_PLAN + 1];
    }

    // ---- the set, the law

    public int count(int what) {
        switch (what) {
            case 0: return now.size;
            case 1: return now.minute;
            case 2: return now.howManyHere();
            case 3: return textCount;
            case 4: return now.law;
            case 5: return tape.size;
            default: return BAD;
        }
    }

    public int clock(int v) {
        if (!within(v, 0, LAST_MINUTE)) {
            return BAD;
        }
        int was = now.minute;
        now.minute = v;
        return was;
    }

    public int feed(int n, int a, int b, int c, int d, int e) {
        if (!within(n, 1, 5) || !isByte(a) || !isByte(b) || !isByte(c) || !isByte(d) || !isByte(e)) {
            return BAD;
        }
        if (tape.size + n > TAPE) {
            return FULL;
        }
        for (int i = 0; i < n; i++) {
            tape.add(i == 0 ? a : i == 1 ? b : i == 2 ? c : i == 3 ? d : e);
        }
        return tape.size;
    }

    public int text() {
        if (textCount >= TEXTS) {
            return FULL;
        }
        boolean stands = tape.isText();
        tape.size = 0;
        if (!stands) {
            return FAULT - tape.start;
        }
        texts[textCount] = tape.asText();
        return textCount++;
    }

    public int force(int t) {
        if (!within(t, 0, textCount - 1)) {
            return BAD;
        }
        int was = now.law;
        now.law = t;
        return was;
    }

    public int asks(int part, int p, int sort) {
        if (!within(part, 0, PARTS - 1) || !now.has(p) || !isSort(sort)) {
            return NOT_ASKED;
        }
        return now.lawSays(part, p, sort);
    }

    public int gentleman(int kindMore, int each) {
        if (!within(kindMore, 0, 10 * KINDS - 1) || !within(each, 0, MOST_GRAINS)) {
            return BAD;
        }
        if (now.size >= ALL) {
            return FULL;
        }
        return now.admit(kindMore / 10, kindMore % 10, each);
    }

    public int put(int p, int what, int v) {
        if (!now.has(p)) {
            return NO_ONE;
        }
        if (!within(what, 0, SORTS) || !within(v, 0, what == SORTS ? MOST_WIT : MOST_GRAINS)) {
            return NO_WHAT;
        }
        return now.setState(p, what, v);
    }

    public int told(int p, int what) {
        if (!now.has(p)) {
            return NO_ONE;
        }
        if (isSort(what)) {
            return now.grains[p * SORTS + what];
        }
        switch (what) {
            case 8: return now.wit[p];
            case 9: return now.kind[p];
            case 10: return now.more[p];
            case 11: return now.sand[p];
            case 12: return now.where[p];
            case 13: return now.left[p];
            default: return NO_WHAT;
        }
    }

    public int pinches(int p, int sort, int what) {
        if (!now.has(p) || !isSort(sort)) {
            return NO_PINCH;
        }
        switch (what) {
            case 0: return now.gone(p, sort);
            case 1: return now.gains(p, sort);
            case 2: return now.spills(p, sort);
            default: return NO_PINCH_WHAT;
        }
    }

    // ---- pinches, minutes

    public int pinch(int p, int sort) {
        if (!now.has(p)) {
            return NO_ONE;
        }
        if (!isSort(sort)) {
            return NO_SORT;
        }
        if (!now.can(p, sort)) {
            return STATE;
        }
        now.take(p, sort);
        return now.left[p];
    }

    public int give(int p, int q, int sort) {
        if (!now.has(p) || !now.has(q) || p == q) {
            return NO_ONE;
        }
        if (!isSort(sort)) {
            return NO_SORT;
        }
        int mine = p * SORTS + sort;
        int theirs = q * SORTS + sort;
        if (now.grains[mine] <= 0 || now.grains[theirs] >= MOST_GRAINS) {
            return STATE;
        }
        now.grains[mine]--;
        now.grains[theirs]++;
        return now.grains[theirs];
    }

    public int minute() {
        if (now.minute >= LAST_MINUTE) {
            return STATE;
        }
        return now.pass();
    }

    public int room(int what) {
        if (what == 0) {
            return now.whoIsIn(HERE);
        }
        if (within(what, 1, SORTS)) {
            return now.whoIsIn(what - 1);
        }
        return what == SORTS + 1 ? now.mostLeft() : BAD;
    }

    // ---- evenings

    public int evening(int s, int what) {
        int refused = refusesEvening(s);
        if (refused != 0) {
            return refused;
        }
        boolean asksWit = within(what, 10, 9 + now.size);
        boolean asksSand = within(what, 20, 19 + now.size);
        if (!within(what, 0, 3) && !asksWit && !asksSand) {
            return NO_WHAT;
        }
        Sheet sheet = sheets[s];
        thought.becomes(now);
        int taken = 0;
        int most = 0;
        int together = 0;
        int firstLeftOut = -1;
        for (int i = 0; i < sheet.size; i++) {
            if (thought.tries(sheet.cells[i])) {
                taken++;
            } else if (sheet.cells[i] != -1 && firstLeftOut < 0) {
                firstLeftOut = i;
            }
            int away = thought.size - thought.howManyHere();
            most = Math.max(most, away);
            together += away;
            thought.pass();
        }
        if (asksWit) {
            return thought.wit[what - 10];
        }
        if (asksSand) {
            return thought.sand[what - 20];
        }
        return what == 0 ? taken : what == 1 ? most : what == 2 ? together : firstLeftOut;
    }

    public int spend(int s) {
        int refused = refusesEvening(s);
        if (refused != 0) {
            return refused;
        }
        Sheet sheet = sheets[s];
        if (now.minute + sheet.size > LAST_MINUTE) {
            return STATE;
        }
        int taken = 0;
        for (int i = 0; i < sheet.size; i++) {
            if (now.tries(sheet.cells[i])) {
                taken++;
            }
            now.pass();
        }
        return taken;
    }

    // ---- what is best

    public int plan(int p, int minutes, int what) {
        if (!now.has(p)) {
            return NO_ONE;
        }
        if (!within(minutes, 0, MOST_PLAN) || !within(what, 0, 1)) {
            return NO_WHAT;
        }
        fillBest(p, minutes);
        if (what == 0) {
            return best[minutes];
        }
        int few = 0;
        while (few < minutes && best[few] != best[minutes]) {
            few++;
        }
        return few;
    }

    /** best[m] becomes the most that a set of one's grains gains in m minutes or fewer. */
    private void fillBest(int p, int minutes) {
        for (int m = 0; m <= minutes; m++) {
            best[m] = 0;
        }
        for (int sort = 0; sort < SORTS; sort++) {
            int gone = now.gone(p, sort);
            int gains = now.gains(p, sort);
            for (int grain = now.grains[p * SORTS + sort]; grain > 0; grain--) {
                for (int m = minutes; m >= gone; m--) {
                    best[m] = Math.max(best[m], best[m - gone] + gains);
                }
            }
        }
    }

    public int which(int p, int what) {
        if (!now.has(p)) {
            return NO_ONE;
        }
        if (!within(what, 0, 1)) {
            return NO_WHAT;
        }
        int first = -1;
        int most = now.wit[p];
        for (int sort = 0; sort < SORTS; sort++) {
            if (now.can(p, sort)) {
                int wit = bounded(now.wit[p] + now.gains(p, sort), 0, MOST_WIT);
                if (first < 0 || wit > most) {
                    first = sort;
                    most = wit;
                }
            }
        }
        return what == 0 ? first : most;
    }

    public int tour(int p, int what) {
        if (!now.has(p)) {
            return NO_ONE;
        }
        if (!within(what, 0, 1)) {
            return NO_WHAT;
        }
        int unseen = 0;
        for (int sort = 0; sort < SORTS; sort++) {
            if (!now.hasSand(p, sort)) {
                if (now.grains[p * SORTS + sort] <= 0) {
                    return -1;
                }
                unseen++;
            }
        }
        return what == 0 ? unseen : tourMinutes(p);
    }

    private int tourMinutes(int p) {
        thought.becomes(now);
        for (int minutes = 0; minutes <= MOST_TOUR; minutes++) {
            if (thought.where[p] == HERE) {
                int sort = thought.firstUnseen(p);
                if (sort == SORTS) {
                    return minutes;
                }
                if (!thought.can(p, sort)) {
                    return -1;
                }
                thought.take(p, sort);
            }
            thought.pass();
        }
        return -1;
    }

    public int share(int sort, int what) {
        if (!isSort(sort) || !within(what, 0, 1)) {
            return BAD;
        }
        int first = -1;
        int most = now.allWit();
        for (int q = 0; q < now.size; q++) {
            if (now.grains[q * SORTS + sort] < MOST_GRAINS) {
                int wit = witSharing(q, sort);
                if (first < 0 || wit > most) {
                    first = q;
                    most = wit;
                }
            }
        }
        return what == 0 ? first : most;
    }

    private int witSharing(int q, int sort) {
        thought.becomes(now);
        thought.grains[q * SORTS + sort]++;
        for (int p = 0; p < thought.size; p++) {
            if (thought.can(p, sort)) {
                thought.take(p, sort);
            }
        }
        return thought.allWit();
    }

    public long box(int p, int part) {
        if (!now.has(p) || !within(part, 0, 1)) {
            return NO;
        }
        int all = 0;
        for (int q = 0; q < now.size; q++) {
            all += now.grainsOf(q);
        }
        return all == 0 ? NO : lowest(now.grainsOf(p), all, part);
    }

    // ---- told evenings

    public int judge(int s, int told, int p) {
        int refused = refusesJudging(s, told, p);
        if (refused != 0) {
            return refused;
        }
        thought.becomes(now);
        return otherwise(s, told, p);
    }

    public int kinds(int s, int told, int p, int sort) {
        int refused = refusesJudging(s, told, p);
        if (refused != 0) {
            return refused;
        }
        if (!within(sort, 0, 1)) {
            return NO_WHAT;
        }
        int bits = 0;
        int last = sort == 0 ? KINDS - 1 : MOST_MORE;
        for (int v = 0; v <= last; v++) {
            thought.becomes(now);
            if (sort == 0) {
                thought.kind[p] = v;
            } else {
                thought.more[p] = v;
            }
            if (otherwise(s, told, p) == -1) {
                bits |= 1 << v;
            }
        }
        return bits;
    }

    public int states(int s, int told, int p, int sort, int what) {
        int refused = refusesJudging(s, told, p);
        if (refused != 0) {
            return refused;
        }
        if (!within(sort, 0, SORTS) || !within(what, 0, 1)) {
            return NO_WHAT;
        }
        int howMany = 0;
        int least = -1;
        int last = sort == SORTS ? MOST_WIT : MOST_GRAINS;
        for (int v = 0; v <= last; v++) {
            thought.becomes(now);
            thought.setState(p, sort, v);
            if (otherwise(s, told, p) == -1) {
                howMany++;
                if (least < 0) {
                    least = v;
                }
            }
        }
        return what == 0 ? howMany : least;
    }

    public int whose(int s, int told) {
        int refused = refusesTold(s, told);
        if (refused != 0) {
            return refused;
        }
        int bits = 0;
        for (int p = 0; p < now.size; p++) {
            thought.becomes(now);
            if (otherwise(s, told, p) == -1) {
                bits |= 1 << p;
            }
        }
        return bits;
    }

    public int laws(int s, int told, int p) {
        int refused = refusesJudging(s, told, p);
        if (refused != 0) {
            return refused;
        }
        int bits = 0;
        for (int t = 0; t < textCount; t++) {
            thought.becomes(now);
            thought.law = t;
            if (otherwise(s, told, p) == -1) {
                bits |= 1 << t;
            }
        }
        return bits;
    }

    public int film(int s, int told, int p) {
        if (!isSheet(told) || told == s) {
            return BAD;
        }
        int refused = refusesEvening(s);
        if (refused != 0) {
            return refused;
        }
        if (!now.has(p)) {
            return NO_ONE;
        }
        Sheet sheet = sheets[s];
        Sheet tale = sheets[told];
        tale.becomes(0, sheet.size);
        thought.becomes(now);
        for (int i = 0; i < sheet.size; i++) {
            thought.tries(sheet.cells[i]);
            thought.pass();
            tale.write(i, thought.wit[p]);
        }
        return sheet.size;
    }

    /** The first minute, from the company in thought, whose wit is not the told one; -1: none. */
    private int otherwise(int s, int told, int p) {
        Sheet sheet = sheets[s];
        Sheet tale = sheets[told];
        for (int i = 0; i < tale.size && i < sheet.size; i++) {
            thought.tries(sheet.cells[i]);
            thought.pass();
            if (thought.wit[p] != tale.cells[i]) {
                return i;
            }
        }
        return -1;
    }

    // ---- evenings by lots

    public int drawn(int seed, int n, int what) {
        if (!within(seed, 0, LAST_SEED) || !within(n, 0, MOST_DRAWN) || !within(what, 0, 1)) {
            return BAD;
        }
        int taken = drawEvening(seed, n);
        return what == 0 ? thought.allWit() : taken;
    }

    public long odds(int seed, int seeds, int least, int part) {
        if (!within(seed, 0, LAST_SEED) || !within(seeds, 1, MOST_SEEDS)
                || !within(least, 0, MOST_LEAST) || !within(part, 0, 1)) {
            return NO;
        }
        int enough = 0;
        for (int i = 0; i < seeds; i++) {
            drawEvening(seed + i, ODDS_MINUTES);
            if (thought.allWit() >= least) {
                enough++;
            }
        }
        return lowest(enough, seeds, part);
    }

    /** Leaves the company in thought behind the evening by the seed: how many pinches are taken. */
    private int drawEvening(int seed, int n) {
        thought.becomes(now);
        long lot = seed + 1;
        int taken = 0;
        for (int i = 0; i < n; i++) {
            lot = lot * LOT_TIMES % LOT_MODULO;
            int p = (int) (lot % ALL);
            lot = lot * LOT_TIMES % LOT_MODULO;
            int sort = (int) (lot % SORTS);
            if (thought.tries(10 * p + sort)) {
                taken++;
            }
            thought.pass();
        }
        return taken;
    }

    public int image() {
        kept.becomes(now);
        hasImage = true;
        return now.size;
    }

    public int back() {
        if (!hasImage) {
            return STATE;
        }
        now.becomes(kept);
        return now.size;
    }

    // ---- the host

    public int sheet(int s, int sort, int n) {
        if (!isSheet(s) || !within(sort, -1, SHEET_SORTS - 1)) {
            return BAD;
        }
        if (sort == -1) {
            sheets[s].becomes(-1, 0);
            return 1;
        }
        if (n > CELLS) {
            return BAD;
        }
        if (n < 0) {
            return BELOW;
        }
        sheets[s].becomes(sort, n);
        return 1;
    }

    public int cell(int s, int i, int v) {
        if (!isSheet(s)) {
            return BAD;
        }
        if (sheets[s].isMissing()) {
            return MISSING;
        }
        if (!sheets[s].has(i)) {
            return OUTSIDE;
        }
        sheets[s].write(i, v);
        return 1;
    }

    public int copy(int s, int i, int other, int j, int n) {
        if (!isSheet(s) || !isSheet(other)) {
            return BAD;
        }
        Sheet from = sheets[s];
        Sheet to = sheets[other];
        if (from.isMissing() || to.isMissing()) {
            return MISSING;
        }
        if (from.sort != to.sort) {
            return UNLIKE;
        }
        if (!from.holds(i, n) || !to.holds(j, n)) {
            return OUTSIDE;
        }
        System.arraycopy(from.cells, i, to.cells, j, n);
        return n;
    }

    public int setBy(int s, int sort, int from, int n) {
        if (!isSheet(s) || !within(sort, 0, SHEET_SORTS - 1) || !within(n, 0, ALL)) {
            return BAD;
        }
        Sheet sheet = sheets[s];
        if (sheet.isMissing()) {
            return MISSING;
        }
        if (sheet.sort != sort) {
            return UNLIKE;
        }
        int came = 0;
        for (int k = 0; k < n; k++) {
            int at = from + 2 * k;
            if (!sheet.has(at) || !sheet.has(at + 1)) {
                return OUTSIDE;
            }
            if (gentleman(sheet.cells[at], sheet.cells[at + 1]) >= 0) {
                came++;
            }
        }
        return came;
    }

    public int taken(int i, int kind) {
        if (!within(kind, 0, KINDS)) {
            return BAD;
        }
        if (!within(i, 0, 2 * ALL - 1)) {
            return OUTSIDE;
        }
        int p = i % ALL;
        if (!now.has(p)) {
            return MISSING;
        }
        if (i >= ALL) {
            return kind == KINDS ? now.wit[p] : UNLIKE;
        }
        return isA(now.kind[p], kind) ? p : UNLIKE;
    }

    // ---- what several calls need

    private static boolean within(int v, int least, int most) {
        return v >= least && v <= most;
    }

    private static int bounded(int v, int least, int most) {
        return Math.max(least, Math.min(v, most));
    }

    private static boolean isByte(int v) {
        return within(v, 0, 255);
    }

    private static boolean isSort(int v) {
        return within(v, 0, SORTS - 1);
    }

    private static boolean isSheet(int s) {
        return within(s, 0, SHEETS - 1);
    }

    private static boolean isA(int kind, int other) {
        return kind == other || other == GENTLEMAN
            || kind == OLD && other == WIT || kind == FOOTMAN && other == LADY;
    }

    private int refusesEvening(int s) {
        if (!isSheet(s)) {
            return BAD;
        }
        Sheet sheet = sheets[s];
        if (sheet.isMissing()) {
            return MISSING;
        }
        for (int i = 0; i < sheet.size; i++) {
            int v = sheet.cells[i];
            if (v != -1 && !(v >= 0 && now.has(v / 10) && isSort(v % 10))) {
                return BAD;
            }
        }
        return 0;
    }

    private int refusesTold(int s, int told) {
        if (!isSheet(told)) {
            return BAD;
        }
        int refused = refusesEvening(s);
        if (refused != 0) {
            return refused;
        }
        if (sheets[told].isMissing()) {
            return MISSING;
        }
        return sheets[told].size > sheets[s].size ? BAD : 0;
    }

    private int refusesJudging(int s, int told, int p) {
        int refused = refusesTold(s, told);
        if (refused != 0) {
            return refused;
        }
        return now.has(p) ? 0 : NO_ONE;
    }

    private static long lowest(int above, int below, int part) {
        int a = above;
        int b = below;
        for (int turn = 0; turn < 100 && a != 0; turn++) {
            int rest = b % a;
            b = a;
            a = rest;
        }
        int divisor = Math.max(1, b);
        return (part == 0 ? above : below) / divisor;
    }

    /** A row of numbers of a sort of the host's, or none (sort -1). */
    private static final class Sheet {
        final int[] cells = new int[CELLS];
        int sort = -1;
        int size;

        boolean isMissing() {
            return sort < 0;
        }

        boolean has(int i) {
            return i >= 0 && i < size;
        }

        boolean holds(int i, int n) {
            return i >= 0 && n >= 0 && n <= size && i <= size - n;
        }

        void becomes(int newSort, int n) {
            sort = newSort;
            size = Math.max(0, Math.min(n, CELLS));
            for (int i = 0; i < size; i++) {
                cells[i] = 0;
            }
        }

        void write(int i, int v) {
            if (has(i)) {
                cells[i] = sort == 0 ? (byte) v : sort == 1 ? (short) v : v;
            }
        }
    }

    /** What a text has its value by: a number from 0 on is itself, names and signs stand below 0. */
    private static final class Text {
        static final int NAME = -1, LAST_NAME = -6;
        static final int MINUS = -7, NOT = -8;
        static final int OR = -9, AND = -10, LESS = -11, SAME = -12, PLUS = -13, LESSEN = -14, TIMES = -15;

        /** Postfix: a sign stands behind what it joins. */
        final int[] code;
        final int[] ends = new int[PARTS];

        Text(int[] steps, int length, int[] partEnds) {
            int size = Math.max(0, Math.min(length, steps.length));
            code = new int[size];
            System.arraycopy(steps, 0, code, 0, size);
            for (int part = 0; part < PARTS && part < partEnds.length; part++) {
                ends[part] = Math.min(partEnds[part], size);
            }
        }

        int begin(int part) {
            return part == 0 ? 0 : ends[part - 1];
        }

        static int joined(int sign, int a, int b) {
            switch (sign) {
                case OR: return a != 0 || b != 0 ? 1 : 0;
                case AND: return a != 0 && b != 0 ? 1 : 0;
                case LESS: return a < b ? 1 : 0;
                case SAME: return a == b ? 1 : 0;
                case PLUS: return a + b;
                case LESSEN: return a - b;
                default: return a * b;
            }
        }
    }

    /** The bytes that were fed, and the reading of them as a text. */
    private static final class Tape {
        private static final int END = 0, NUMBER = 1, WRONG = 2;
        private static final int WORD = 1000, WORDS = 12, OR = 1003, AND = 1004, NOT = 1005, FIRST_NAME = 1006;

        final int[] bytes = new int[TAPE];
        int size;
        /** Where the token that is looked at begins: the fault's place, if it can't stand there. */
        int start;
        private int place;
        private int token;
        private int value;
        private final int[] steps = new int[TAPE];
        private int length;
        private final int[] ends = new int[PARTS];

        void add(int b) {
            if (size < TAPE) {
                bytes[size] = b;
                size++;
            }
        }

        Text asText() {
            return new Text(steps, length, ends);
        }

        boolean isText() {
            place = 0;
            length = 0;
            readToken();
            for (int part = 0; part < PARTS; part++) {
                if (!passes(WORD + part) || !readAny(0) || !passes(';')) {
                    return false;
                }
                ends[part] = length;
            }
            return token == END;
        }

        private boolean passes(int wanted) {
            if (token != wanted) {
                return false;
            }
            readToken();
            return true;
        }

        private void emit(int step) {
            if (length < TAPE) {
                steps[length] = step;
                length++;
            }
        }

        // The grammar, loosest first; open tells how many of ( not - are open. All answer whether it stands.

        private boolean readAny(int open) {
            boolean stands = readBoth(open);
            for (int i = 0; i < TAPE && stands && token == OR; i++) {
                readToken();
                stands = readBoth(open);
                emit(Text.OR);
            }
            return stands;
        }

        private boolean readBoth(int open) {
            boolean stands = readNot(open);
            for (int i = 0; i < TAPE && stands && token == AND; i++) {
                readToken();
                stands = readNot(open);
                emit(Text.AND);
            }
            return stands;
        }

        private boolean readNot(int open) {
            if (token == NOT) {
                if (open >= MOST_OPEN) {
                    return false;
                }
                readToken();
                boolean stands = readNot(open + 1);
                emit(Text.NOT);
                return stands;
            }
            boolean stands = readSum(open);
            if (stands && (token == '<' || token == '=')) {
                int sign = token == '<' ? Text.LESS : Text.SAME;
                readToken();
                stands = readSum(open);
                emit(sign);
            }
            return stands;
        }

        private boolean readSum(int open) {
            boolean stands = readTerm(open);
            for (int i = 0; i < TAPE && stands && (token == '+' || token == '-'); i++) {
                int sign = token == '+' ? Text.PLUS : Text.LESSEN;
                readToken();
                stands = readTerm(open);
                emit(sign);
            }
            return stands;
        }

        private boolean readTerm(int open) {
            boolean stands = readOne(open);
            for (int i = 0; i < TAPE && stands && token == '*'; i++) {
                readToken();
                stands = readOne(open);
                emit(Text.TIMES);
            }
            return stands;
        }

        private boolean readOne(int open) {
            if (token == NUMBER) {
                emit(value);
                readToken();
                return true;
            }
            if (token >= FIRST_NAME) {
                emit(Text.NAME - (token - FIRST_NAME));
                readToken();
                return true;
            }
            if (token != '-' && token != '(' || open >= MOST_OPEN) {
                return false;
            }
            if (token == '(') {
                readToken();
                return readAny(open + 1) && passes(')');
            }
            readToken();
            boolean stands = readOne(open + 1);
            emit(Text.MINUS);
            return stands;
        }

        // The tokens.

        private void readToken() {
            while (place < size && (bytes[place] == 32 || bytes[place] == 10)) {
                place++;
            }
            start = place;
            if (place >= size) {
                token = END;
            } else if (isLetter(bytes[place])) {
                readWord();
            } else if (isDigit(bytes[place])) {
                readNumber();
            } else {
                token = isSign(bytes[place]) ? bytes[place] : WRONG;
                place++;
            }
        }

        private void readWord() {
            while (place < size && isLetter(bytes[place])) {
                place++;
            }
            token = WRONG;
            for (int i = 0; i < WORDS; i++) {
                if (spells(wordOf(i))) {
                    token = WORD + i;
                }
            }
        }

        private void readNumber() {
            value = 0;
            while (place < size && isDigit(bytes[place])) {
                value = value * 10 + bytes[place] - '0';
                place++;
            }
            token = place - start > MOST_DIGITS ? WRONG : NUMBER;
        }

        private boolean spells(String word) {
            if (word.length() != place - start) {
                return false;
            }
            for (int i = 0; i < word.length(); i++) {
                if (bytes[start + i] != word.charAt(i)) {
                    return false;
                }
            }
            return true;
        }

        private static String wordOf(int i) {
            switch (i) {
                case 0: return "gone";
                case 1: return "gains";
                case 2: return "spills";
                case 3: return "or";
                case 4: return "and";
                case 5: return "not";
                case 6: return "sort";
                case 7: return "grains";
                case 8: return "wit";
                case 9: return "sand";
                case 10: return "minute";
                default: return "more";
            }
        }

        private static boolean isLetter(int b) {
            return b >= 'a' && b <= 'z';
        }

        private static boolean isDigit(int b) {
            return b >= '0' && b <= '9';
        }

        private static boolean isSign(int b) {
            return b == '(' || b == ')' || b == ';' || b == '+' || b == '-' || b == '*' || b == '<' || b == '=';
        }
    }

    /** The gentlemen, the minute and the law: as they truly are, in thought, or kept by the image. */
    private static final class Company {
        private final Text[] texts;
        private final int[] stack;
        final int[] kind = new int[ALL];
        final int[] more = new int[ALL];
        final int[] wit = new int[ALL];
        final int[] sand = new int[ALL];
        final int[] where = new int[ALL];
        final int[] left = new int[ALL];
        final int[] grains = new int[ALL * SORTS];
        int size;
        int minute;
        int law;

        Company(Text[] shelf, int[] room) {
            texts = shelf;
            stack = room;
        }

        void becomes(Company other) {
            System.arraycopy(other.kind, 0, kind, 0, ALL);
            System.arraycopy(other.more, 0, more, 0, ALL);
            System.arraycopy(other.wit, 0, wit, 0, ALL);
            System.arraycopy(other.sand, 0, sand, 0, ALL);
            System.arraycopy(other.where, 0, where, 0, ALL);
            System.arraycopy(other.left, 0, left, 0, ALL);
            System.arraycopy(other.grains, 0, grains, 0, ALL * SORTS);
            size = other.size;
            minute = other.minute;
            law = other.law;
        }

        boolean has(int p) {
            return p >= 0 && p < size;
        }

        int admit(int newKind, int newMore, int each) {
            if (size >= ALL) {
                return FULL;
            }
            int p = size;
            size++;
            kind[p] = newKind;
            more[p] = newMore;
            wit[p] = 0;
            sand[p] = 0;
            where[p] = HERE;
            left[p] = 0;
            for (int sort = 0; sort < SORTS; sort++) {
                grains[p * SORTS + sort] = each;
            }
            return p;
        }

        /** Grains of a sort, or the wit (behind the sorts), become v: what it was. */
        int setState(int p, int what, int v) {
            int was;
            if (what == SORTS) {
                was = wit[p];
                wit[p] = v;
            } else {
                was = grains[p * SORTS + what];
                grains[p * SORTS + what] = v;
            }
            return was;
        }

        // What is to be seen.

        boolean hasSand(int p, int sort) {
            return (sand[p] >> sort & 1) != 0;
        }

        /** The first sort that isn't of one's sand; SORTS: there is none. */
        int firstUnseen(int p) {
            int sort = 0;
            while (sort < SORTS && hasSand(p, sort)) {
                sort++;
            }
            return sort;
        }

        int whoIsIn(int place) {
            int bits = 0;
            for (int p = 0; p < size; p++) {
                if (where[p] == place) {
                    bits |= 1 << p;
                }
            }
            return bits;
        }

        int howManyHere() {
            return Integer.bitCount(whoIsIn(HERE));
        }

        int mostLeft() {
            int most = 0;
            for (int p = 0; p < size; p++) {
                most = Math.max(most, left[p]);
            }
            return most;
        }

        int allWit() {
            int all = 0;
            for (int p = 0; p < size; p++) {
                all += wit[p];
            }
            return all;
        }

        int grainsOf(int p) {
            int all = 0;
            for (int sort = 0; sort < SORTS; sort++) {
                all += grains[p * SORTS + sort];
            }
            return all;
        }

        // The law.

        int lawSays(int part, int p, int sort) {
            Text text = texts[law];
            if (text == null) {
                return 0;
            }
            int top = 0;
            for (int i = text.begin(part); i < text.ends[part]; i++) {
                int step = text.code[i];
                if (step >= Text.LAST_NAME) {
                    if (top < stack.length) {
                        stack[top] = step >= 0 ? step : named(step, p, sort);
                        top++;
                    }
                } else if (step >= Text.NOT) {
                    if (top > 0) {
                        stack[top - 1] = step == Text.MINUS ? -stack[top - 1] : stack[top - 1] == 0 ? 1 : 0;
                    }
                } else if (top > 1) {
                    top--;
                    stack[top - 1] = Text.joined(step, stack[top - 1], stack[top]);
                }
            }
            switch (part) {
                case GONE: return bounded(stack[0], 0, MOST_GONE);
                case GAINS: return bounded(stack[0], -MOST_GAINS, MOST_GAINS);
                default: return bounded(stack[0], 0, MOST_SPILLS);
            }
        }

        private int named(int step, int p, int sort) {
            switch (Text.NAME - step) {
                case 0: return sort;
                case 1: return grains[p * SORTS + sort];
                case 2: return wit[p];
                case 3: return Integer.bitCount(sand[p]);
                case 4: return minute;
                default: return more[p];
            }
        }

        // The kinds.

        int gone(int p, int sort) {
            int says = lawSays(GONE, p, sort);
            switch (kind[p]) {
                case WIT: return Math.max(1, says / 2);
                case LADY: return says + 10;
                case OLD: return sort == more[p] % SORTS ? 1 : Math.max(1, says / 2);
                case FOOTMAN: return sort == SORTS - 1 ? 99 : (says + 10) / 3;
                case HORN: return Math.max(1, more[p]);
                default: return Math.max(1, says);
            }
        }

        int gains(int p, int sort) {
            int says = lawSays(GAINS, p, sort);
            boolean known = hasSand(p, sort);
            switch (kind[p]) {
                case WIT: return known ? says : says + more[p];
                case OLD: return known ? 0 : 2 * (says + more[p]);
                case FOOTMAN: return -says;
                default: return says;
            }
        }

        int spills(int p, int sort) {
            int says = lawSays(SPILLS, p, sort);
            switch (kind[p]) {
                case LADY:
                case FOOTMAN: return minute % 2 == 0 ? says + 1 : 0;
                case HORN: return 0;
                default: return says;
            }
        }

        // Pinches and minutes.

        boolean can(int p, int sort) {
            return has(p) && isSort(sort) && where[p] == HERE && grains[p * SORTS + sort] > 0;
        }

        /** A pinch of one who can: all by the state ahead of it. */
        void take(int p, int sort) {
            int goneFor = gone(p, sort);
            int newWit = bounded(wit[p] + gains(p, sort), 0, MOST_WIT);
            int spilt = spills(p, sort);
            int mine = p * SORTS + sort;
            int next = p + 1 < size ? p + 1 : 0;
            grains[mine]--;
            if (next != p) {
                int theirs = next * SORTS + sort;
                spilt = Math.min(spilt, Math.min(grains[mine], MOST_GRAINS - grains[theirs]));
                grains[mine] -= spilt;
                grains[theirs] += spilt;
            }
            wit[p] = newWit;
            sand[p] |= 1 << sort;
            where[p] = sort;
            left[p] = goneFor;
        }

        /** Takes a pinch as an evening tells it (-1: nobody's), if that can be: whether it was taken. */
        boolean tries(int told) {
            if (told < 0 || !can(told / 10, told % 10)) {
                return false;
            }
            take(told / 10, told % 10);
            return true;
        }

        /** A minute: who comes to be here (bits). */
        int pass() {
            int come = 0;
            for (int p = 0; p < size; p++) {
                if (where[p] != HERE) {
                    left[p]--;
                    if (left[p] <= 0) {
                        left[p] = 0;
                        where[p] = HERE;
                        come |= 1 << p;
                    }
                }
            }
            minute++;
            return come;
        }
    }
}
