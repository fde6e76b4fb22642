/**
 * A few darks, kept for the needs that come one a year. The promises that this class keeps are
 * numbered in DOC.md; it is written in the part of Java that LANGUAGE.md leaves.
 */
public final class EclipsesKept {
    public static final int NONE = -1, BAD = -2, STATE = -3, FULL = -4;
    public static final long NO = Long.MIN_VALUE;

    private static final int NOT_ANY = -5, NOTHING = -11, CAST = -12, PLACE = -13, SIZE = -14;
    // Where an answer may be below 0, these stand for NONE and BAD.
    private static final int FAR_NONE = -10000001, FAR_BAD = -10000002;
    private static final int FAULT_BASE = -10, CUT_SHORT = 100;

    private static final int MOST_NEEDS = 6, MOST_DARKS = 8, MOST_V = 9, MOST_KIND = 6;
    private static final int MOST_SERVED = 9999, LAST_YEAR = 9999, MOST_GLORY = 999999;
    private static final int MOST_YEARS = 8, MOST_AHEAD = 60, MOST_SEEN_AHEAD = 20, MOST_WORTH = 999;
    private static final int MOST_CENTURY = 8, MOST_SEEN = 5, MOST_BOOK = 8, ROW = 4;
    private static final int MOST_TEXT = 100, MOST_SIGN = 127, MOST_ARCHIVES = 6;
    private static final int MOST_TAPES = 6, MOST_ITEMS = 60, INTS = 2, BOOLEANS = 4, NO_ROW = -1;
    private static final int KEPT_BODIES = 20;
    private static final int FIRST_BASE = 10, FIRST_KEEP = 1;
    // Euclid's steps stay far below this for every long.
    private static final int MOST_STEPS = 1000;

    private final State state = new State();
    private final State kept = new State();
    private final Years years = new Years();
    private final Tape[] tapes = new Tape[MOST_TAPES];
    private final StringBuilder text = new StringBuilder();
    // How many bodies ran, and behind that the first of them.
    private final int[] bodies = new int[1 + KEPT_BODIES];
    private int archives = 0;
    private boolean imaged = false;

    public EclipsesKept() {
        for (int k = 0; k < MOST_TAPES; k++) {
            tapes[k] = new Tape();
        }
    }

    // ---- needs, archives

    public int need(int kind, int v) {
        if (!isWithin(kind, MOST_KIND)) {
            return NONE;
        }
        if (!isWithin(v, MOST_V)) {
            return BAD;
        }
        if (state.needCount >= MOST_NEEDS) {
            return FULL;
        }
        return state.join(made(kind, state.needCount, v));
    }

    public int of(int need, int what) {
        Need asked = state.needOf(need);
        if (asked == null) {
            return NONE;
        }
        switch (what) {
            case 0: return asked.kind;
            case 1: return asked.v;
            case 2: return state.served[need];
            case 3: return state.worthOf(need, state.year, state.darks);
            default: return NONE;
        }
    }

    public int worth(int need, int n, int darks) {
        if (!state.has(need)) {
            return NONE;
        }
        if (!isWithin(n, MOST_AHEAD) || !isWithin(darks, MOST_DARKS)) {
            return BAD;
        }
        return state.worthOf(need, state.year + n, darks);
    }

    public int serve(int need) {
        if (!state.has(need)) {
            return FAR_NONE;
        }
        if (state.darks < 1 || state.year >= LAST_YEAR || state.served[need] >= MOST_SERVED) {
            return FAR_BAD;
        }
        int won = state.worthOf(need, state.year, state.darks);
        state.darks--;
        state.served[need]++;
        return state.endYear(won);
    }

    public int spare(int need) {
        if (!state.has(need)) {
            return FAR_NONE;
        }
        if (state.year >= LAST_YEAR) {
            return FAR_BAD;
        }
        return state.endYear(0);
    }

    public int darks(int n) {
        if (!isWithin(n, MOST_DARKS)) {
            return BAD;
        }
        int before = state.darks;
        state.darks = n;
        return before;
    }

    public int row(int need, int part, int n) {
        Need asked = state.needOf(need);
        if (asked == null || !isWithin(part, ROW - 1)) {
            return NONE;
        }
        if (!isWithin(n, MOST_V)) {
            return BAD;
        }
        if (!(asked instanceof Told)) {
            return STATE;
        }
        int before = state.rows[need * ROW + part];
        state.rows[need * ROW + part] = n;
        return before;
    }

    public int feed(int sign) {
        if (!isWithin(sign, MOST_SIGN)) {
            return BAD;
        }
        if (text.length() >= MOST_TEXT) {
            return FULL;
        }
        text.append((char) sign);
        return text.length();
    }

    public int archive() {
        if (archives >= MOST_ARCHIVES) {
            return FULL;
        }
        Archive told = new Archive(text.toString());
        text.setLength(0);
        if (!told.isOne()) {
            return FAULT_BASE - told.place();
        }
        state.archive = told;
        archives++;
        return archives - 1;
    }

    public int told(int what) {
        switch (what) {
            case 0: return state.year;
            case 1: return state.darks;
            case 2: return state.glory;
            case 3: return state.keepCost();
            default: return FAR_NONE;
        }
    }

    // ---- what the years are worth; part 0 above, 1 below the line

    public long mean(int n, int part) {
        return onTheMean(n, Years.BEST, 0, part);
    }

    public int wise(int need, int n) {
        if (!state.has(need)) {
            return NONE;
        }
        if (n < 1 || n > MOST_YEARS) {
            return BAD;
        }
        years.look(state, n, state.darks);
        years.weigh(n, Years.BEST, 0);
        return years.serves(need, n, state.darks, Years.BEST, 0) ? 1 : 0;
    }

    public long price(int n, int part) {
        if (!isAsked(n, part) || state.darks >= MOST_DARKS) {
            return NO;
        }
        int more = state.darks + 1;
        years.look(state, n, more);
        years.weigh(n, Years.BEST, 0);
        return fraction(years.totals[n][more] - years.totals[n][state.darks], years.ways[n], part);
    }

    public long greedy(int n, int part) {
        return onTheMean(n, Years.GREEDY, 0, part);
    }

    public long only(int set, int n, int part) {
        return isWithin(set, (1 << MOST_NEEDS) - 1) ? onTheMean(n, Years.ONLY, set, part) : NO;
    }

    public int chosen(int n) {
        if (!isWithin(n, MOST_YEARS)) {
            return BAD;
        }
        if (state.needCount == 0) {
            return NOT_ANY;
        }
        years.look(state, n, state.darks);
        return years.bestSet(n, state.darks);
    }

    public long spent(int n, int part) {
        if (!isAsked(n, part)) {
            return NO;
        }
        years.look(state, n, state.darks);
        years.weigh(n, Years.BEST, 0);
        return fraction(years.waysToSpend(n, state.darks), years.ways[n], part);
    }

    public int threshold(int n) {
        if (n < 1 || n > MOST_YEARS) {
            return BAD;
        }
        if (state.needCount == 0 || state.darks == 0) {
            return NOT_ANY;
        }
        years.look(state, n, state.darks);
        years.weigh(n, Years.BEST, 0);
        long least = years.leastWise(n, state.darks);
        return least > MOST_WORTH ? NOT_ANY : (int) least;
    }

    // ---- centuries

    public int century(int need) {
        if (need == -1) {
            state.centuryCount = 0;
            return 0;
        }
        if (!state.has(need)) {
            return NONE;
        }
        if (state.centuryCount >= MOST_CENTURY) {
            return FULL;
        }
        state.century[state.centuryCount] = need;
        state.centuryCount++;
        return state.centuryCount;
    }

    public int plan(int what) {
        if (!isWithin(what, 1)) {
            return FAR_NONE;
        }
        years.look(state, state.centuryCount, state.darks);
        int best = years.bestPlan(state);
        return what == 0 ? best : years.gain(state, best);
    }

    public int ends(int what) {
        if (!isWithin(what, 1)) {
            return FAR_NONE;
        }
        years.look(state, state.centuryCount, state.darks);
        return years.gain(state, what == 0 ? 0 : (1 << MOST_CENTURY) - 1);
    }

    // ---- seen, books

    public int see(int need, int worth, int n) {
        if (need == -1) {
            state.seenCount = 0;
            return 0;
        }
        if (!state.has(need)) {
            return NONE;
        }
        if (!isWithin(worth, MOST_WORTH) || !isWithin(n, MOST_SEEN_AHEAD)) {
            return BAD;
        }
        if (state.seenCount >= MOST_SEEN) {
            return FULL;
        }
        int at = state.seenCount;
        state.seenNeed[at] = need;
        state.seenWorth[at] = worth;
        state.seenAhead[at] = n;
        state.seenCount++;
        return state.seenCount;
    }

    public int can(int need, int what) {
        if (!state.has(need) || !isWithin(what, 1)) {
            return NONE;
        }
        int many = 0;
        int least = NOT_ANY;
        for (int v = MOST_V; v >= 0; v--) {
            if (state.isAllSeen(need, v, state.darks)) {
                many++;
                least = v;
            }
        }
        return what == 0 ? many : least;
    }

    public int darked(int what) {
        if (!isWithin(what, 1)) {
            return NONE;
        }
        int many = 0;
        int least = NOT_ANY;
        for (int d = MOST_DARKS; d >= 0; d--) {
            if (state.isAllSeen(-1, 0, d)) {
                many++;
                least = d;
            }
        }
        return what == 0 ? many : least;
    }

    public int book(int need, int served) {
        if (need == -1) {
            state.bookCount = 0;
            return 0;
        }
        if (!state.has(need)) {
            return NONE;
        }
        if (!isWithin(served, MOST_SERVED)) {
            return BAD;
        }
        if (state.bookCount >= MOST_BOOK) {
            return FULL;
        }
        state.bookNeed[state.bookCount] = need;
        state.bookServed[state.bookCount] = served;
        state.bookCount++;
        return state.bookCount;
    }

    public int looked() {
        for (int k = 0; k < state.bookCount; k++) {
            if (state.served[state.bookNeed[k]] != state.bookServed[k]) {
                return k;
            }
        }
        return NOT_ANY;
    }

    // ---- judging, the image, acts, tapes

    public int judge(int tape, int i) {
        Tape told = tapeOf(tape);
        if (told == null) {
            return NONE;
        }
        if (told.holds() && told.sort != INTS) {
            return CAST;
        }
        for (int k = 0; k < state.needCount; k++) {
            // A place near the greatest int must not wrap to one below 0.
            if (i < 0 || i >= told.length - k) {
                return CUT_SHORT + k;
            }
            if (told.items[i + k] != state.worthOf(k, state.year, state.darks)) {
                return k;
            }
        }
        return NOT_ANY;
    }

    public int image() {
        kept.become(state);
        imaged = true;
        return kept.needCount;
    }

    public int undo() {
        if (!imaged) {
            return STATE;
        }
        state.become(kept);
        return state.needCount;
    }

    public int act(int need, int act, int x) {
        bodies[0] = 0;
        Need asked = state.needOf(need);
        if (asked == null) {
            return 0;
        }
        switch (act) {
            case 0: return asked.darkens(x);
            case 1: return asked.pleads(x);
            case 2: return asked.tells(x);
            default: return 0;
        }
    }

    public int trace(int i) {
        if (i < 0 || i >= bodies[0] || i >= KEPT_BODIES) {
            return NONE;
        }
        return bodies[1 + i];
    }

    public int taken(int need, int k) {
        if (!isWithin(k, MOST_KIND)) {
            return BAD;
        }
        Need asked = state.needOf(need);
        if (asked == null) {
            return NOTHING;
        }
        return isOfKind(asked, k) ? asked.kind : CAST;
    }

    public int count(int what) {
        switch (what) {
            case 0: return state.needCount;
            case 1: return archives;
            case 2: return state.centuryCount;
            case 3: return state.seenCount;
            case 4: return state.bookCount;
            case 5: return text.length();
            case 6: return bodies[0];
            default: return BAD;
        }
    }

    public int tape(int tape, int sort, int n) {
        Tape told = tapeOf(tape);
        if (told == null) {
            return NONE;
        }
        if (sort == NO_ROW) {
            told.become(NO_ROW, 0);
            return 1;
        }
        if (!isWithin(sort, BOOLEANS) || n > MOST_ITEMS) {
            return BAD;
        }
        if (n < 0) {
            return SIZE;
        }
        told.become(sort, n);
        return 1;
    }

    public int item(int tape, int i, long v) {
        Tape told = tapeOf(tape);
        if (told == null) {
            return NONE;
        }
        if (!told.holds()) {
            return NOTHING;
        }
        if (!told.hasPlace(i)) {
            return PLACE;
        }
        told.items[i] = told.narrowed(v);
        return 1;
    }

    public long read(int tape, int i) {
        Tape told = tapeOf(tape);
        if (told == null || !told.hasPlace(i)) {
            return NO;
        }
        return told.items[i];
    }

    public int shift(int tape, int i, int other, int j, int n) {
        Tape from = tapeOf(tape);
        Tape to = tapeOf(other);
        if (from == null || to == null) {
            return NONE;
        }
        if (!from.holds() || !to.holds()) {
            return NOTHING;
        }
        if (from.sort != to.sort) {
            return CAST;
        }
        if (!from.hasRun(i, n) || !to.hasRun(j, n)) {
            return PLACE;
        }
        System.arraycopy(from.items, i, to.items, j, n);
        return n;
    }

    // ---- what the calls share

    private static boolean isWithin(int n, int most) {
        return n >= 0 && n <= most;
    }

    private boolean isAsked(int n, int part) {
        return isWithin(n, MOST_YEARS) && isWithin(part, 1) && state.needCount > 0;
    }

    private long onTheMean(int n, int rule, int set, int part) {
        if (!isAsked(n, part)) {
            return NO;
        }
        years.look(state, n, state.darks);
        years.weigh(n, rule, set);
        return fraction(years.totals[n][state.darks], years.ways[n], part);
    }

    private Tape tapeOf(int tape) {
        return isWithin(tape, MOST_TAPES - 1) ? tapes[tape] : null;
    }

    private Need made(int kind, int number, int v) {
        switch (kind) {
            case 1: return new Siege(kind, number, v, bodies);
            case 2: return new Crown(kind, number, v, bodies);
            case 3: return new Photo(kind, number, v, bodies);
            case 4: return new Child(kind, number, v, bodies);
            case 5: return new Bird(kind, number, v, bodies);
            case 6: return new Told(kind, number, v, bodies);
            default: return new Need(0, number, v, bodies);
        }
    }

    private static boolean isOfKind(Need need, int kind) {
        switch (kind) {
            case 0: return true;
            case 1: return need instanceof Siege;
            case 2: return need instanceof Crown;
            case 3: return need instanceof Photo;
            case 4: return need instanceof Child;
            case 5: return need instanceof Bird;
            case 6: return need instanceof Told;
            default: return false;
        }
    }

    private static long fraction(long above, long below, int part) {
        long common = Math.max(1, commonOf(Math.abs(above), below));
        return part == 0 ? above / common : below / common;
    }

    private static long commonOf(long first, long second) {
        long greater = first;
        long less = second;
        for (int k = 0; k < MOST_STEPS && less != 0; k++) {
            long rest = greater % less;
            greater = less;
            less = rest;
        }
        return greater;
    }

    /** All that THE IMAGE keeps, so that to take it and to go back to it is one copy each. */
    private static final class State {
        // A Need never changes, so that the image may hold the same ones.
        final Need[] needs = new Need[MOST_NEEDS];
        final int[] served = new int[MOST_NEEDS];
        final int[] rows = new int[MOST_NEEDS * ROW];
        final int[] century = new int[MOST_CENTURY];
        final int[] seenNeed = new int[MOST_SEEN];
        final int[] seenWorth = new int[MOST_SEEN];
        final int[] seenAhead = new int[MOST_SEEN];
        final int[] bookNeed = new int[MOST_BOOK];
        final int[] bookServed = new int[MOST_BOOK];
        int needCount = 0;
        int centuryCount = 0;
        int seenCount = 0;
        int bookCount = 0;
        int darks = 3;
        int glory = 0;
        int year = 0;
        Archive archive = null;

        void become(State other) {
            for (int k = 0; k < MOST_NEEDS; k++) {
                needs[k] = other.needs[k];
            }
            System.arraycopy(other.served, 0, served, 0, MOST_NEEDS);
            System.arraycopy(other.rows, 0, rows, 0, MOST_NEEDS * ROW);
            System.arraycopy(other.century, 0, century, 0, MOST_CENTURY);
            System.arraycopy(other.seenNeed, 0, seenNeed, 0, MOST_SEEN);
            System.arraycopy(other.seenWorth, 0, seenWorth, 0, MOST_SEEN);
            System.arraycopy(other.seenAhead, 0, seenAhead, 0, MOST_SEEN);
            System.arraycopy(other.bookNeed, 0, bookNeed, 0, MOST_BOOK);
            System.arraycopy(other.bookServed, 0, bookServed, 0, MOST_BOOK);
            needCount = other.needCount;
            centuryCount = other.centuryCount;
            seenCount = other.seenCount;
            bookCount = other.bookCount;
            darks = other.darks;
            glory = other.glory;
            year = other.year;
            archive = other.archive;
        }

        boolean has(int need) {
            return need >= 0 && need < needCount;
        }

        Need needOf(int need) {
            return has(need) ? needs[need] : null;
        }

        int join(Need need) {
            // Behind the last need all numbers are 0: so they began, and so the image keeps them.
            needs[needCount] = need;
            needCount++;
            return needCount - 1;
        }

        int keepCost() {
            return archive == null ? FIRST_KEEP : archive.keep;
        }

        int endYear(int won) {
            int then = glory + won - keepCost() * darks;
            glory = Math.max(-MOST_GLORY, Math.min(MOST_GLORY, then));
            year++;
            return glory;
        }

        int worthOf(int number, int inYear, int withDarks) {
            Need need = needOf(number);
            return need == null ? 0 : worthBy(number, need.v, inYear, withDarks);
        }

        int worthBy(int number, int v, int inYear, int withDarks) {
            Need need = needOf(number);
            if (need == null) {
                return 0;
            }
            int base = archive == null ? FIRST_BASE
                    : archive.baseOf(number, need.kind, v, inYear, withDarks);
            int told = rows[number * ROW + Math.floorMod(inYear, ROW)];
            return Math.max(0, need.gives(base, v, inYear, withDarks, told));
        }

        /** Whether all of SEEN is so, were v that need's (-1: all keep their own). */
        boolean isAllSeen(int need, int v, int withDarks) {
            for (int k = 0; k < seenCount; k++) {
                int other = seenNeed[k];
                int then = year + seenAhead[k];
                int found = other == need ? worthBy(other, v, then, withDarks)
                        : worthOf(other, then, withDarks);
                if (found != seenWorth[k]) {
                    return false;
                }
            }
            return true;
        }
    }

    /** What the next years bring; its rows are made once and used again by each question. */
    private static final class Years {
        static final int BEST = 0, GREEDY = 1, ONLY = 2;

        // By years from now, darks and need.
        private final int[] worths = new int[MOST_YEARS * (MOST_DARKS + 1) * MOST_NEEDS];
        // How many ways there are for so many years to bring needs: below the line of all that
        // is on the mean, so that what follows are sums over all of them, and whole numbers.
        final long[] ways = new long[MOST_YEARS + 1];
        // By years left and darks; with no year left they stay 0.
        final long[][] totals = new long[MOST_YEARS + 1][MOST_DARKS + 1];
        private final long[][] spentWays = new long[MOST_YEARS + 1][MOST_DARKS + 1];
        private int needs = 0;
        private int mostDarks = 0;
        private int keep = 0;
        private int ahead = 0;

        /** Takes in all that the questions about n years ask, with so many darks at most. */
        void look(State now, int n, int most) {
            needs = now.needCount;
            mostDarks = most;
            keep = now.keepCost();
            ahead = n;
            ways[0] = 1;
            for (int k = 1; k <= n; k++) {
                ways[k] = ways[k - 1] * needs;
            }
            for (int t = 0; t < n; t++) {
                for (int d = 1; d <= most; d++) {
                    for (int i = 0; i < needs; i++) {
                        worths[place(t, d, i)] = now.worthOf(i, now.year + t, d);
                    }
                }
            }
        }

        private static int place(int t, int d, int i) {
            return (t * (MOST_DARKS + 1) + d) * MOST_NEEDS + i;
        }

        /** Fills the totals for 0 to n years left: n are all that were looked at. */
        void weigh(int n, int rule, int set) {
            for (int left = 1; left <= n; left++) {
                for (int d = 0; d <= mostDarks; d++) {
                    totals[left][d] = weighYear(left, d, rule, set);
                }
            }
        }

        private long weighYear(int left, int d, int rule, int set) {
            long sum = 0;
            for (int i = 0; i < needs; i++) {
                sum += serves(i, left, d, rule, set) ? ifServed(i, left, d) : ifSpared(left, d);
            }
            return sum;
        }

        boolean serves(int i, int left, int d, int rule, int set) {
            if (d < 1) {
                return false;
            }
            switch (rule) {
                case BEST: return ifServed(i, left, d) > ifSpared(left, d);
                case GREEDY: return worths[place(ahead - left, d, i)] > 0;
                default: return (set >> i & 1) == 1;
            }
        }

        private long ifServed(int i, int left, int d) {
            long now = worths[place(ahead - left, d, i)] - keep * (d - 1);
            return totals[left - 1][d - 1] + now * ways[left - 1];
        }

        private long ifSpared(int left, int d) {
            return totals[left - 1][d] - keep * d * ways[left - 1];
        }

        int bestSet(int n, int d) {
            int best = 0;
            long most = 0;
            for (int set = 0; set < 1 << needs; set++) {
                weigh(n, ONLY, set);
                if (set == 0 || totals[n][d] > most) {
                    best = set;
                    most = totals[n][d];
                }
            }
            return best;
        }

        /** By how many of all ways no dark is left, if what is wise is served. */
        long waysToSpend(int n, int darks) {
            for (int d = 0; d <= mostDarks; d++) {
                spentWays[0][d] = d == 0 ? 1 : 0;
            }
            for (int left = 1; left <= n; left++) {
                for (int d = 0; d <= mostDarks; d++) {
                    long sum = 0;
                    for (int i = 0; i < needs; i++) {
                        int then = serves(i, left, d, BEST, 0) ? d - 1 : d;
                        sum += spentWays[left - 1][then];
                    }
                    spentWays[left][d] = sum;
                }
            }
            return spentWays[n][darks];
        }

        /** The least worth above what a dark is worth if it is kept; d is 1 at least. */
        long leastWise(int n, int d) {
            long each = Math.max(1, ways[n - 1]);
            long worthKept = totals[n - 1][d] - totals[n - 1][d - 1] - keep * each;
            return Math.max(0, Math.floorDiv(worthKept, each) + 1);
        }

        int bestPlan(State now) {
            int best = 0;
            int most = gain(now, 0);
            for (int set = 1; set < 1 << now.centuryCount; set++) {
                if (Integer.bitCount(set) <= now.darks) {
                    int got = gain(now, set);
                    if (got > most) {
                        best = set;
                        most = got;
                    }
                }
            }
            return best;
        }

        /** The gain of the century, if those of the set are served as long as there are darks. */
        int gain(State now, int set) {
            int left = now.darks;
            int sum = 0;
            for (int t = 0; t < now.centuryCount; t++) {
                if ((set >> t & 1) == 1 && left > 0) {
                    sum += worths[place(t, left, now.century[t])];
                    left--;
                }
                sum -= keep * left;
            }
            return sum;
        }
    }

    /** A text read once: its clauses, and what they ask as tests with their operators behind them. */
    private static final class Archive {
        private static final int MOST_CLAUSES = 10, DEEPEST = 4;
        private static final int FAME = 1, SHAME = -1, KEEP = 0;
        private static final int NOT = '!', AND = '&', OR = '|';

        private final String text;
        private final boolean one;
        private int at = 0;
        private final int[] sorts = new int[MOST_CLAUSES];
        private final int[] numbers = new int[MOST_CLAUSES];
        // A clause's codes end where the next one's start.
        private final int[] starts = new int[MOST_CLAUSES + 1];
        private final int[] codes = new int[MOST_TEXT];
        private int clauses = 0;
        private int codeCount = 0;
        int keep = FIRST_KEEP;

        Archive(String text) {
            this.text = text;
            this.one = takesClauses();
        }

        boolean isOne() {
            return one;
        }

        /** Where reading came to rest: the fault, if this is none. */
        int place() {
            return at;
        }

        private boolean takesClauses() {
            for (int k = 0; k < MOST_CLAUSES; k++) {
                if (!takesClause()) {
                    return false;
                }
                if (at == text.length()) {
                    return true;
                }
                if (k == MOST_CLAUSES - 1 || !takes(';')) {
                    return false;
                }
            }
            return false;
        }

        private boolean takesClause() {
            int sort = sees('s') ? SHAME : sees('k') ? KEEP : FAME;
            String word = sort == SHAME ? "shame " : sort == KEEP ? "keep " : "fame ";
            if (!takesWord(word)) {
                return false;
            }
            int n = takesNumber();
            if (n < 0) {
                return false;
            }
            if (sort == KEEP) {
                keep = n;
            } else if (!takes(' ') || !takesEither(0)) {
                return false;
            }
            sorts[clauses] = sort;
            numbers[clauses] = n;
            clauses++;
            starts[clauses] = codeCount;
            return true;
        }

        private boolean takesEither(int depth) {
            if (!takesBoth(depth)) {
                return false;
            }
            for (int k = 0; k < MOST_TEXT && takes('|'); k++) {
                if (!takesBoth(depth)) {
                    return false;
                }
                put(OR);
            }
            return true;
        }

        private boolean takesBoth(int depth) {
            if (!takesPart(depth)) {
                return false;
            }
            for (int k = 0; k < MOST_TEXT && takes('&'); k++) {
                if (!takesPart(depth)) {
                    return false;
                }
                put(AND);
            }
            return true;
        }

        private boolean takesPart(int depth) {
            // Within so many others a ( or ! is none, and no test begins with one.
            if (depth < DEEPEST) {
                if (takes('!')) {
                    if (!takesPart(depth + 1)) {
                        return false;
                    }
                    put(NOT);
                    return true;
                }
                if (takes('(')) {
                    return takesEither(depth + 1) && takes(')');
                }
            }
            return takesTest();
        }

        private boolean takesTest() {
            char letter = takesOneOf("ikvycd");
            if (letter == 0) {
                return false;
            }
            char relation = takesOneOf("<=>");
            if (relation == 0) {
                return false;
            }
            int n = takesNumber();
            if (n < 0) {
                return false;
            }
            put(letter << 16 | relation << 8 | n);
            return true;
        }

        private int takesNumber() {
            int n = -1;
            for (int k = 0; k < 2 && at < text.length(); k++) {
                int digit = text.charAt(at) - '0';
                if (digit < 0 || digit > 9) {
                    break;
                }
                n = Math.max(n, 0) * 10 + digit;
                at++;
            }
            return n;
        }

        private boolean takesWord(String word) {
            for (int k = 0; k < word.length(); k++) {
                if (!takes(word.charAt(k))) {
                    return false;
                }
            }
            return true;
        }

        private char takesOneOf(String signs) {
            if (at >= text.length() || signs.indexOf(text.charAt(at)) < 0) {
                return 0;
            }
            at++;
            return text.charAt(at - 1);
        }

        private boolean takes(char sign) {
            if (!sees(sign)) {
                return false;
            }
            at++;
            return true;
        }

        private boolean sees(char sign) {
            return at < text.length() && text.charAt(at) == sign;
        }

        private void put(int code) {
            if (codeCount < MOST_TEXT) {
                codes[codeCount] = code;
                codeCount++;
            }
        }

        int baseOf(int i, int k, int v, int year, int darks) {
            int base = FIRST_BASE;
            for (int c = 0; c < clauses; c++) {
                if (sorts[c] != KEEP && holdsFor(c, i, k, v, year, darks)) {
                    base += sorts[c] * numbers[c];
                }
            }
            return base;
        }

        /** Runs a clause's codes over a pile of bits; so few lie open at once that an int holds them. */
        private boolean holdsFor(int clause, int i, int k, int v, int year, int darks) {
            int pile = 0;
            for (int c = starts[clause]; c < starts[clause + 1]; c++) {
                int code = codes[c];
                int top = pile & 1;
                switch (code) {
                    case NOT:
                        pile ^= 1;
                        break;
                    case AND:
                        pile = pile >> 1 & (top | ~1);
                        break;
                    case OR:
                        pile = pile >> 1 | top;
                        break;
                    default:
                        pile = pile << 1 | (passes(code, i, k, v, year, darks) ? 1 : 0);
                        break;
                }
            }
            return (pile & 1) == 1;
        }

        private static boolean passes(int code, int i, int k, int v, int year, int darks) {
            int found;
            switch (code >> 16) {
                case 'i': found = i; break;
                case 'k': found = k; break;
                case 'v': found = v; break;
                case 'y': found = year % 10; break;
                case 'c': found = year / 10 % 10; break;
                default: found = darks; break;
            }
            int n = code & 255;
            switch (code >> 8 & 255) {
                case '<': return found < n;
                case '=': return found == n;
                default: return found > n;
            }
        }
    }

    /** A row of some sort; its items are kept as longs, each as its sort leaves it. */
    private static final class Tape {
        final long[] items = new long[MOST_ITEMS];
        int sort = NO_ROW;
        int length = 0;

        boolean holds() {
            return sort != NO_ROW;
        }

        void become(int newSort, int n) {
            sort = newSort;
            length = n;
            for (int k = 0; k < MOST_ITEMS; k++) {
                items[k] = 0;
            }
        }

        boolean hasPlace(int i) {
            return i >= 0 && i < length;
        }

        boolean hasRun(int i, int n) {
            return n >= 0 && i >= 0 && n <= length && i <= length - n;
        }

        long narrowed(long v) {
            switch (sort) {
                case 0: return (byte) v;
                case 1: return (short) v;
                case INTS: return (int) v;
                case BOOLEANS: return v != 0 ? 1 : 0;
                default: return v;
            }
        }
    }

    /** A need's kind: what it gives, and the bodies of its acts; the kinds under it stand under it here. */
    private static class Need {
        final int kind;
        final int number;
        final int v;
        private final int[] bodies;

        Need(int kind, int number, int v, int[] bodies) {
            this.kind = kind;
            this.number = number;
            this.v = v;
            this.bodies = bodies;
        }

        /** The worth before it is held to 0 at least; v may be another one than the need's own. */
        int gives(int base, int withV, int year, int darks, int told) {
            return base;
        }

        final void began(int body) {
            int ran = bodies[0] + 1;
            bodies[0] = ran;
            if (ran > 0 && ran < bodies.length) {
                bodies[ran] = body;
            }
        }

        int darkens(int x) {
            began(10);
            return x + number;
        }

        int pleads(int x) {
            began(11);
            return darkens(x) - v;
        }

        int tells(int x) {
            began(12);
            return pleads(x) * 2;
        }
    }

    private static class Siege extends Need {
        Siege(int kind, int number, int v, int[] bodies) {
            super(kind, number, v, bodies);
        }

        int gives(int base, int withV, int year, int darks, int told) {
            return base + year % 8;
        }

        int pleads(int x) {
            began(20);
            return super.pleads(x) ^ 6;
        }
    }

    private static class Crown extends Need {
        Crown(int kind, int number, int v, int[] bodies) {
            super(kind, number, v, bodies);
        }

        int gives(int base, int withV, int year, int darks, int told) {
            return year % 2 == 0 ? base : 0;
        }

        int darkens(int x) {
            began(30);
            return super.darkens(x * 3);
        }
    }

    private static class Photo extends Need {
        Photo(int kind, int number, int v, int[] bodies) {
            super(kind, number, v, bodies);
        }

        int gives(int base, int withV, int year, int darks, int told) {
            return base / 2;
        }

        int tells(int x) {
            began(40);
            return super.tells(x) + pleads(1);
        }
    }

    private static final class Child extends Siege {
        Child(int kind, int number, int v, int[] bodies) {
            super(kind, number, v, bodies);
        }

        int gives(int base, int withV, int year, int darks, int told) {
            int once = super.gives(base, withV, year, darks, told);
            return darks == 1 ? once * 2 : once;
        }

        int darkens(int x) {
            began(50);
            return -super.darkens(x);
        }

        int pleads(int x) {
            began(51);
            return super.pleads(x + 1);
        }
    }

    private static final class Bird extends Crown {
        Bird(int kind, int number, int v, int[] bodies) {
            super(kind, number, v, bodies);
        }

        int gives(int base, int withV, int year, int darks, int told) {
            return super.gives(base, withV, year, darks, told) + withV;
        }

        int tells(int x) {
            began(60);
            return super.tells(x - number);
        }
    }

    private static final class Told extends Photo {
        Told(int kind, int number, int v, int[] bodies) {
            super(kind, number, v, bodies);
        }

        int gives(int base, int withV, int year, int darks, int told) {
            return super.gives(base, withV, year, darks, told) + told;
        }

        int pleads(int x) {
            began(70);
            return super.pleads(x) + super.darkens(2);
        }

        int darkens(int x) {
            began(71);
            return super.darkens(x) ^ v;
        }
    }
}
