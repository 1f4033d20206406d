/**
 * Whether to stand in line: a place told in a text, the lengths of its line in the long run, the bars by
 * which one joins, and the line itself, minute by minute. ../shared/DOC.md tells what each call answers;
 * the words in capitals here are its words.
 *
 * All rows are made once, in the constructors, and used again: no call makes an object.
 */
public final class RopeLine {
    public static final int UNKNOWN = -1, OUTSIDE = -2, STATE = -3, FULL = -4, NONE = -9;
    public static final long LOST = Long.MIN_VALUE;

    private static final int NO_FAULT = 0, NULL_FAULT = 1, CAST_FAULT = 2, INDEX_FAULT = 3, SIZE_FAULT = 4;
    private static final int MOST_SHEETS = 4, MOST_CELLS = 60;
    private static final int NOTHING = -1, BYTES = 0, SHORTS = 1, INTS = 2;
    private static final int MOST_SORTS = 3, MOST_TWELFTHS = 11, MOST_COST = 9, MOST_DIGITS = 3;
    private static final int MOST_WORTH = 999, MOST_TOLL = 999;
    private static final int MOST_STEP = 20, MOST_LIE = 20;
    private static final int TWELVE = 12, LONGEST = 5, LENGTHS = 6, MOST_MINUTES = 8, BLIND_LONGEST = 4;
    private static final int UPPER = 0, LOWER = 1, AS_TOLD = 2;
    private static final int MOST_COMERS = 40, COMER = 0, STANDS = 1, DONE = 2;
    private static final int FIRST_COME = 0, LAST_COME = 1, BY_WORTH = 2;
    private static final int OWN_CALL = 90;

    // Euclid's steps for two longs are fewer than 100; the bound is only there to be seen.
    private static final int MOST_STEPS = 200;

    private final Sheets sheets;
    private final Text text;
    private final Place here;
    private final Lengths lengths;
    private final Gains gains;
    private final Queue queue;
    private int orderNow;
    private int traceNow;
    private int faultNow;

    public RopeLine() {
        sheets = new Sheets();
        text = new Text(sheets);
        here = new Place();
        lengths = new Lengths();
        gains = new Gains();
        queue = new Queue();
    }

    // ---- 1 the place

    public int place(int sheet, int lane, int i, int n) {
        faultNow = NO_FAULT;
        if (!sheets.has(sheet)) return UNKNOWN;
        if (!isWithin(lane, BYTES, INTS)) return OUTSIDE;
        if (sheets.isOfAnotherLane(sheet, lane)) return faulted(CAST_FAULT);
        if (sheets.hasNothing(sheet)) return faulted(NULL_FAULT);
        if (n < 0) return faulted(SIZE_FAULT);
        int size = sheets.sizeOf(sheet);
        if (!isWithin(i, 0, size) || n > size - i) return faulted(INDEX_FAULT);
        if (!text.isTaken(sheet, i, n)) return -100 - text.next;
        here.becomes(text);
        queue.empties();
        gains.forgets();
        return here.sorts;
    }

    public int about(int what) {
        if (!isWithin(what, 0, 5)) return OUTSIDE;
        if (!here.isTold) return STATE;
        switch (what) {
            case 0: return here.served;
            case 1: return here.cost;
            case 2: return here.twelfthsTogether();
            case 3: return here.toll;
            case 4: return here.step;
            default: return here.lie;
        }
    }

    public int ofSort(int s, int what) {
        if (!here.has(s)) return UNKNOWN;
        switch (what) {
            case 0: return at(here.twelfths, s);
            case 1: return at(here.worths, s);
            case 2: return at(here.bars, s);
            case 3: return here.hisBar(s);
            default: return OUTSIDE;
        }
    }

    public int bar(int s, int v) {
        if (!here.has(s)) return UNKNOWN;
        if (!isWithin(v, 0, LONGEST)) return OUTSIDE;
        int was = at(here.bars, s);
        set(here.bars, s, v);
        return was;
    }

    public int toll(int v) {
        if (!isWithin(v, 0, MOST_TOLL)) return OUTSIDE;
        if (!here.isTold) return STATE;
        int was = here.toll;
        here.toll = v;
        return was;
    }

    public int board(int r, int lie) {
        if (!isWithin(r, 0, MOST_STEP) || !isWithin(lie, -MOST_LIE, MOST_LIE)) return OUTSIDE;
        if (!here.isTold) return STATE;
        int lieOfThis = r == 0 ? 0 : lie;
        if (here.step == r && here.lie == lieOfThis) return 0;
        here.step = r;
        here.lie = lieOfThis;
        return 1;
    }

    public int bars(int what) {
        if (!isWithin(what, 0, 2)) return OUTSIDE;
        if (!here.isTold) return STATE;
        if (what == 1) gains.knowBest(here);
        int changed = 0;
        for (int s = 0; s < here.sorts; s++) {
            int becomes = barFor(s, what);
            if (at(here.bars, s) != becomes) changed++;
            set(here.bars, s, becomes);
        }
        return changed;
    }

    private int barFor(int s, int what) {
        switch (what) {
            case 0: return here.hisBar(s);
            case 1: return at(gains.bestRow, s);
            default: return LONGEST;
        }
    }

    // ---- 2 in the long run (by BARS as they are)

    public long often(int n, int which) {
        if (!isWithin(n, 0, LONGEST) || !isWithin(which, UPPER, LOWER) || !here.isTold) return LOST;
        lengths.comeByBars(here, here.bars);
        return share(at(lengths.weights, n), lengths.total, which);
    }

    public long mean(int which) {
        if (!isWithin(which, UPPER, LOWER) || !here.isTold) return LOST;
        lengths.comeByBars(here, here.bars);
        return share(lengths.lengthsByWeight(), lengths.total, which);
    }

    public long on(int s, int which) {
        if (!here.has(s) || !isWithin(which, UPPER, LOWER)) return LOST;
        lengths.comeByBars(here, here.bars);
        long all = TWELVE * lengths.total;
        return share(all - lengths.foundBelow(at(here.bars, s)), all, which);
    }

    public long less(int n, int which) {
        if (!isWithin(n, 1, LONGEST) || !isWithin(which, UPPER, LOWER) || !here.isTold) return LOST;
        lengths.comeByBars(here, here.bars);
        if (at(lengths.weights, n) == 0) return LOST;
        return lengths.tillLess(n, which);
    }

    public long after(int t, int n, int k, int which) {
        if (!isWithin(t, 0, MOST_MINUTES) || !isWithin(n, 0, LONGEST) || !isWithin(k, 0, LONGEST)) return LOST;
        if (!isWithin(which, UPPER, LOWER) || !here.isTold) return LOST;
        lengths.comeByBars(here, here.bars);
        return lengths.afterMinutes(t, n, k, which);
    }

    // ---- 3 bars

    public long minutes(int n, int which) {
        if (!isWithin(n, 0, LONGEST) || !isWithin(which, UPPER, AS_TOLD) || !here.isTold) return LOST;
        if (which == AS_TOLD) return here.minutesAsTold(n);
        return share(TWELVE * (n + 1), here.served, which);
    }

    public long gain(int which) {
        if (!isWithin(which, UPPER, LOWER) || !here.isTold) return LOST;
        gains.reckon(here, here.bars);
        return share(gains.upper, gains.lower, which);
    }

    public int best(int s) {
        if (!here.has(s)) return UNKNOWN;
        gains.knowBest(here);
        return at(gains.bestRow, s);
    }

    public int against(int bars, int others) {
        int last = rowsOf(here.sorts) - 1;
        if (!isWithin(bars, 0, last) || !isWithin(others, 0, last)) return OUTSIDE;
        if (!here.isTold) return STATE;
        gains.rowBecomes(here, bars);
        gains.reckon(here, gains.row);
        long upper = gains.upper;
        long lower = gains.lower;
        gains.rowBecomes(here, others);
        gains.reckon(here, gains.row);
        return compareShares(upper, lower, gains.upper, gains.lower);
    }

    public int mends(int what) {
        if (!isWithin(what, 0, 2)) return OUTSIDE;
        if (!here.isTold) return STATE;
        gains.knowBest(here);
        int least = NONE;
        int greatest = NONE;
        int many = 0;
        for (int toll = 0; toll <= MOST_TOLL; toll++) {
            if (mendsAll(toll)) {
                if (many == 0) least = toll;
                greatest = toll;
                many++;
            }
        }
        return what == 0 ? least : what == 1 ? greatest : many;
    }

    private boolean mendsAll(int toll) {
        for (int s = 0; s < here.sorts; s++) {
            if (here.hisBarUnseen(s, toll) != at(gains.bestRow, s)) return false;
        }
        return true;
    }

    public long blind(int k, int n, int which) {
        if (!isWithin(k, 0, TWELVE) || !isWithin(n, 0, BLIND_LONGEST) || !isWithin(which, UPPER, LOWER)) return LOST;
        if (here.sorts != 1) return LOST;
        lengths.comeBlind(here, k);
        return share(at(lengths.weights, n), lengths.total, which);
    }

    public int rest() {
        if (here.sorts != 1) return STATE;
        for (int k = TWELVE; k > 0; k--) {
            if (paysBlind(k)) return k;
        }
        return 0;
    }

    private boolean paysBlind(int k) {
        lengths.comeBlind(here, k);
        long join = 0;
        long places = 0;
        for (int n = 0; n < BLIND_LONGEST; n++) {
            join += lengths.found(n);
            places += (n + 1) * lengths.found(n);
        }
        return at(here.worths, 0) * here.served * join >= here.cost * TWELVE * places;
    }

    // ---- 4 the line

    public int order(int v) {
        if (!isWithin(v, FIRST_COME, BY_WORTH)) return OUTSIDE;
        int was = orderNow;
        orderNow = v;
        return was;
    }

    public int minute(int first, int second) {
        if (!isWithin(first, 0, TWELVE - 1) || !isWithin(second, 0, TWELVE - 1)) return OUTSIDE;
        if (!here.isTold) return STATE;
        int sort = here.sortDrawn(second);
        if (sort != NONE && queue.isFull()) return FULL;
        queue.allWait();
        int answer = 0;
        if (queue.standing > 0 && first < here.served) {
            answer = 100 * (queue.serve(queue.nextBy(orderNow, here)) + 1);
        }
        if (sort != NONE) answer += queue.comes(sort, at(here.bars, sort)) ? 2 : 1;
        queue.minutes++;
        return answer;
    }

    public int ofComer(int c, int what) {
        if (!queue.has(c)) return UNKNOWN;
        switch (what) {
            case 0: return at(queue.kinds, c);
            case 1: return at(queue.sorts, c);
            case 2: return at(queue.waited, c);
            case 3: return at(queue.cameIn, c);
            case 4: return at(queue.servedIn, c);
            case 5: return isKind(c, DONE) ? at(here.worths, at(queue.sorts, c)) - here.cost * at(queue.waited, c) : 0;
            default: return OUTSIDE;
        }
    }

    public int leave(int c) {
        if (!queue.has(c)) return UNKNOWN;
        int k = queue.placeOf(c);
        if (k == NONE) return STATE;
        queue.takeOut(k);
        set(queue.kinds, c, COMER);
        return queue.standing;
    }

    public int line(int k) {
        if (!isWithin(k, -1, LONGEST - 1)) return UNKNOWN;
        if (k == -1) return queue.standing;
        return k < queue.standing ? at(queue.row, k) : NONE;
    }

    public int envy() {
        return queue.envious();
    }

    // ---- 5 sheets, parts

    public int sheet(int k, int lane, int n) {
        faultNow = NO_FAULT;
        if (!sheets.has(k)) return UNKNOWN;
        if (!isWithin(lane, BYTES, INTS) || n > MOST_CELLS) return OUTSIDE;
        if (n < 0) return faulted(SIZE_FAULT);
        sheets.renew(k, lane, n);
        return 1;
    }

    public int lose(int k) {
        if (!sheets.has(k)) return UNKNOWN;
        if (sheets.hasNothing(k)) return 0;
        sheets.forget(k);
        return 1;
    }

    public int put(int k, int i, int v) {
        faultNow = NO_FAULT;
        if (!sheets.has(k)) return UNKNOWN;
        if (sheets.hasNothing(k)) return faulted(NULL_FAULT);
        if (!isWithin(i, 0, sheets.sizeOf(k) - 1)) return faulted(INDEX_FAULT);
        sheets.write(k, i, v);
        return 1;
    }

    public long cell(int k, int i, int lane) {
        faultNow = NO_FAULT;
        if (!sheets.has(k) || !isWithin(lane, BYTES, INTS)) return LOST;
        if (sheets.isOfAnotherLane(k, lane)) return lost(CAST_FAULT);
        if (sheets.hasNothing(k)) return lost(NULL_FAULT);
        if (!isWithin(i, 0, sheets.sizeOf(k) - 1)) return lost(INDEX_FAULT);
        return sheets.read(k, i);
    }

    public int tell(int c) {
        if (!queue.has(c)) return UNKNOWN;
        switch (at(queue.kinds, c)) {
            case DONE: return toldByDone(c);
            case STANDS: return toldByStands(c);
            default: return toldByComer(c);
        }
    }

    public int call(int c) {
        if (!queue.has(c)) return UNKNOWN;
        return isKind(c, DONE) ? calledByDone() : calledByLent(c);
    }

    public int as(int c, int kind) {
        faultNow = NO_FAULT;
        if (!queue.has(c)) return UNKNOWN;
        if (!isWithin(kind, COMER, DONE)) return OUTSIDE;
        return isKind(c, kind) ? 1 : faulted(CAST_FAULT);
    }

    public int trace() {
        return traceNow;
    }

    public int fault() {
        return faultNow;
    }

    public int many(int what) {
        switch (what) {
            case 0: return here.sorts;
            case 1: return queue.comers;
            case 2: return queue.standing;
            case 3: return queue.done();
            case 4: return queue.minutes;
            default: return OUTSIDE;
        }
    }

    // The bodies are kept apart, one a kind, for each leaves its number as it begins: the order of the
    // calls below is the order of the numbers in TRACE.

    private int toldByComer(int c) {
        leaveNumber(1);
        return at(queue.sorts, c);
    }

    private int toldByStands(int c) {
        leaveNumber(2);
        return toldByComer(c) + 10 * at(queue.waited, c);
    }

    private int toldByDone(int c) {
        leaveNumber(3);
        int asStands = toldByStands(c);
        return asStands + toldByComer(c);
    }

    private int calledByLent(int c) {
        leaveNumber(4);
        return c;
    }

    private int calledByDone() {
        leaveNumber(5);
        return OWN_CALL;
    }

    private void leaveNumber(int body) {
        traceNow = 31 * traceNow + body;
    }

    // A kind is one of all kinds below it, too.
    private boolean isKind(int c, int kind) {
        return at(queue.kinds, c) >= kind;
    }

    private int faulted(int which) {
        faultNow = which;
        return -10 - which;
    }

    private long lost(int which) {
        faultNow = which;
        return LOST;
    }

    // ---- numbers and rows

    private static boolean isWithin(int v, int least, int most) {
        return v >= least && v <= most;
    }

    // What is told of a place outside of a row is 0, so that the lengths beyond the longest need no care:
    // nobody ever stands there. Nothing is ever set there.

    private static int at(int[] row, int i) {
        return i >= 0 && i < row.length ? row[i] : 0;
    }

    private static long at(long[] row, int i) {
        return i >= 0 && i < row.length ? row[i] : 0;
    }

    private static void set(int[] row, int i, int v) {
        if (i >= 0 && i < row.length) row[i] = v;
    }

    private static void set(long[] row, int i, long v) {
        if (i >= 0 && i < row.length) row[i] = v;
    }

    /** How many rows of BARS there are: 6 to the SORTS. */
    private static int rowsOf(int sorts) {
        int rows = 1;
        for (int s = 0; s < sorts; s++) rows *= LENGTHS;
        return rows;
    }

    private static long share(long upper, long lower, int which) {
        long common = commonDivisor(Math.abs(upper), lower);
        if (common < 1) return LOST;
        return (which == UPPER ? upper : lower) / common;
    }

    private static long commonDivisor(long a, long b) {
        long one = a;
        long other = b;
        for (int step = 0; step < MOST_STEPS && other != 0; step++) {
            long left = one % other;
            one = other;
            other = left;
        }
        return one;
    }

    // The products of two such shares can grow beyond a long: so whole parts are compared, and where they
    // are the same what is left over, each turned upside down.
    private static int compareShares(long upper, long lower, long otherUpper, long otherLower) {
        long a = upper;
        long b = lower;
        long c = otherUpper;
        long d = otherLower;
        for (int step = 0; step < MOST_STEPS && b > 0 && d > 0; step++) {
            long whole = Math.floorDiv(a, b);
            long otherWhole = Math.floorDiv(c, d);
            if (whole != otherWhole) return whole > otherWhole ? 1 : -1;
            long left = a - whole * b;
            long otherLeft = c - otherWhole * d;
            a = d;
            c = b;
            b = otherLeft;
            d = left;
        }
        // Now b is what the other one has left over, d what the one has.
        return d > 0 ? 1 : b > 0 ? -1 : 0;
    }

    /** SHEETS, the cells of all in one row, so that a new row needs none made. */
    private static final class Sheets {
        private final int[] lanes = new int[MOST_SHEETS];
        private final int[] sizes = new int[MOST_SHEETS];
        private final int[] cells = new int[MOST_SHEETS * MOST_CELLS];

        Sheets() {
            for (int k = 0; k < MOST_SHEETS; k++) set(lanes, k, NOTHING);
        }

        boolean has(int k) {
            return isWithin(k, 0, MOST_SHEETS - 1);
        }

        boolean hasNothing(int k) {
            return at(lanes, k) == NOTHING;
        }

        boolean isOfAnotherLane(int k, int lane) {
            return !hasNothing(k) && at(lanes, k) != lane;
        }

        int sizeOf(int k) {
            return at(sizes, k);
        }

        void renew(int k, int lane, int n) {
            set(lanes, k, lane);
            set(sizes, k, n);
            for (int i = 0; i < n && i < MOST_CELLS; i++) set(cells, indexOf(k, i), 0);
        }

        void forget(int k) {
            set(lanes, k, NOTHING);
            set(sizes, k, 0);
        }

        int indexOf(int k, int i) {
            return k * MOST_CELLS + i;
        }

        int read(int k, int i) {
            return at(cells, indexOf(k, i));
        }

        void write(int k, int i, int v) {
            int cut = v;
            if (at(lanes, k) == BYTES) cut = (byte) v;
            if (at(lanes, k) == SHORTS) cut = (short) v;
            set(cells, indexOf(k, i), cut);
        }
    }

    /** Reads a TEXT; of one that is not taken the next code is the FIRST FAULT. */
    private static final class Text {
        private final int[] twelfths = new int[MOST_SORTS];
        private final int[] worths = new int[MOST_SORTS];
        private final Sheets sheets;
        private int start;
        private int codes;
        private int next;
        private int number;
        private int served;
        private int cost;
        private int sorts;
        private int left;

        Text(Sheets sheets) {
            this.sheets = sheets;
        }

        boolean isTaken(int k, int i, int n) {
            start = sheets.indexOf(k, i);
            codes = n;
            next = 0;
            sorts = 0;
            left = MOST_TWELFTHS;
            if (!takes('m') || !takesNumber(1, MOST_TWELFTHS)) return false;
            served = number;
            if (!takes(';') || !takes('c') || !takesNumber(1, MOST_COST)) return false;
            cost = number;
            for (int s = 0; s < MOST_SORTS && next < codes; s++) {
                if (!takes(';') || !takesSort(s)) return false;
            }
            return next == codes;
        }

        private boolean takesSort(int s) {
            if (!takes('s') || !takesNumber(1, left)) return false;
            left -= number;
            set(twelfths, s, number);
            if (!takes('v') || !takesNumber(0, MOST_WORTH)) return false;
            set(worths, s, number);
            sorts = s + 1;
            return true;
        }

        private boolean takes(int code) {
            if (next >= codes || codeAtNext() != code) return false;
            next++;
            return true;
        }

        private boolean takesNumber(int least, int most) {
            int first = next;
            number = 0;
            for (int digit = 0; digit < MOST_DIGITS && isDigitNext(); digit++) {
                number = 10 * number + codeAtNext() - '0';
                next++;
            }
            if (next > first && isWithin(number, least, most)) return true;
            next = first;
            return false;
        }

        private boolean isDigitNext() {
            return next < codes && isWithin(codeAtNext(), '0', '9');
        }

        private int codeAtNext() {
            return at(sheets.cells, start + next);
        }
    }

    /** A PLACE as its TEXT tells it, with BARS, TOLL and BOARD as they are. */
    private static final class Place {
        private final int[] twelfths = new int[MOST_SORTS];
        private final int[] worths = new int[MOST_SORTS];
        private final int[] bars = new int[MOST_SORTS];
        private boolean isTold;
        private int served;
        private int cost;
        private int sorts;
        private int toll;
        private int step;
        private int lie;

        void becomes(Text text) {
            isTold = true;
            served = text.served;
            cost = text.cost;
            sorts = text.sorts;
            for (int s = 0; s < MOST_SORTS; s++) {
                set(twelfths, s, at(text.twelfths, s));
                set(worths, s, at(text.worths, s));
                set(bars, s, 0);
            }
            toll = 0;
            step = 0;
            lie = 0;
        }

        boolean has(int s) {
            return isWithin(s, 0, sorts - 1);
        }

        int twelfthsTogether() {
            int all = 0;
            for (int s = 0; s < sorts; s++) all += at(twelfths, s);
            return all;
        }

        /** How many twelfths come whose BAR is above n. */
        int joining(int[] row, int n) {
            int all = 0;
            for (int s = 0; s < sorts; s++) {
                if (at(row, s) > n) all += at(twelfths, s);
            }
            return all;
        }

        int sortDrawn(int draw) {
            int below = 0;
            for (int s = 0; s < sorts; s++) {
                below += at(twelfths, s);
                if (draw < below) return s;
            }
            return NONE;
        }

        int minutesAsTold(int n) {
            int twelves = TWELVE * (n + 1);
            if (served < 1) return 0;
            if (step < 1) return twelves / served;
            int byStep = served * step;
            if (byStep < 1) return 0;
            return Math.max(0, step * ((twelves + byStep - 1) / byStep) + lie);
        }

        int hisBar(int s) {
            if (step == 0) return hisBarUnseen(s, toll);
            for (int n = LONGEST; n > 0; n--) {
                if (at(worths, s) - toll >= cost * minutesAsTold(n - 1)) return n;
            }
            return 0;
        }

        /** HIS BAR with a TOLL, where there is no BOARD. */
        int hisBarUnseen(int s, int withToll) {
            for (int n = LONGEST; n > 0; n--) {
                if ((at(worths, s) - withToll) * served >= cost * TWELVE * n) return n;
            }
            return 0;
        }
    }

    /**
     * How likely lengths are: weights, whose sum is total. From one minute to the next a length grows or
     * shrinks by one at most, so each weight follows from the one below it.
     */
    private static final class Lengths {
        private final int[] joining = new int[LENGTHS];
        private final long[] weights = new long[LENGTHS];
        private final long[] now = new long[LENGTHS];
        private final long[] then = new long[LENGTHS];
        private int served;
        private int whole;
        private long total;

        void comeByBars(Place place, int[] bars) {
            served = place.served;
            whole = TWELVE;
            for (int n = 0; n < LENGTHS; n++) set(joining, n, place.joining(bars, n));
            weigh();
        }

        void comeBlind(Place place, int k) {
            served = place.served;
            whole = TWELVE * TWELVE;
            for (int n = 0; n < LENGTHS; n++) set(joining, n, n < BLIND_LONGEST ? k * at(place.twelfths, 0) : 0);
            weigh();
        }

        private void weigh() {
            for (int n = 0; n < LENGTHS; n++) set(weights, n, 0);
            set(weights, 0, 1);
            // Lengths that never come are left out of the products, which else grow beyond a long.
            for (int n = 1; n < LENGTHS && grows(n - 1) > 0; n++) {
                set(weights, n, at(weights, n - 1) * grows(n - 1));
                for (int shorter = 0; shorter < n; shorter++) {
                    set(weights, shorter, at(weights, shorter) * shrinks(n));
                }
            }
            total = 0;
            for (int n = 0; n < LENGTHS; n++) total += at(weights, n);
        }

        // Both are by 12 times the whole.
        private long grows(int n) {
            return (n == 0 ? TWELVE : TWELVE - served) * at(joining, n);
        }

        private long shrinks(int n) {
            return n == 0 ? 0 : served * (whole - at(joining, n - 1));
        }

        long lengthsByWeight() {
            long all = 0;
            for (int n = 0; n < LENGTHS; n++) all += n * at(weights, n);
            return all;
        }

        /** Twelve times the weight of finding n there, as one comes: after the one who is SERVED has gone. */
        long found(int n) {
            return (n == 0 ? TWELVE : TWELVE - served) * at(weights, n) + served * at(weights, n + 1);
        }

        long foundBelow(int bar) {
            long all = 0;
            for (int n = 0; n < bar && n < LENGTHS; n++) all += found(n);
            return all;
        }

        long tillLess(int n, int which) {
            long upper = 0;
            long lower = 1;
            for (int length = LONGEST; length >= n; length--) {
                upper = TWELVE * whole * lower + grows(length) * upper;
                lower = shrinks(length) * lower;
            }
            return share(upper, lower, which);
        }

        long afterMinutes(int t, int n, int k, int which) {
            for (int length = 0; length < LENGTHS; length++) set(now, length, length == n ? 1 : 0);
            long all = 1;
            for (int minute = 0; minute < t; minute++) {
                goOn();
                all *= TWELVE * whole;
            }
            return share(at(now, k), all, which);
        }

        private void goOn() {
            for (int n = 0; n < LENGTHS; n++) {
                long stays = TWELVE * whole - grows(n) - shrinks(n);
                long fromBelow = n > 0 ? at(now, n - 1) * grows(n - 1) : 0;
                set(then, n, at(now, n) * stays + fromBelow + at(now, n + 1) * shrinks(n + 1));
            }
            for (int n = 0; n < LENGTHS; n++) set(now, n, at(then, n));
        }
    }

    /** GAIN of rows of BARS, and THE BEST of them. A row's number tells it by sixes. */
    private static final class Gains {
        private final Lengths lengths = new Lengths();
        private final int[] row = new int[MOST_SORTS];
        private final int[] bestRow = new int[MOST_SORTS];
        private boolean knowsBest;
        private long upper;
        private long lower;

        void forgets() {
            knowsBest = false;
        }

        void reckon(Place place, int[] bars) {
            lengths.comeByBars(place, bars);
            long worth = 0;
            for (int s = 0; s < place.sorts; s++) {
                worth += at(place.twelfths, s) * at(place.worths, s) * lengths.foundBelow(at(bars, s));
            }
            upper = worth - TWELVE * TWELVE * place.cost * lengths.lengthsByWeight();
            lower = TWELVE * TWELVE * lengths.total;
        }

        void rowBecomes(Place place, int number) {
            int left = number;
            for (int s = place.sorts - 1; s >= 0; s--) {
                set(row, s, left % LENGTHS);
                left /= LENGTHS;
            }
        }

        /** Found when it is first asked for: neither BARS nor TOLL nor BOARD change it. */
        void knowBest(Place place) {
            if (knowsBest) return;
            long bestUpper = 0;
            long bestLower = 0;
            int rows = rowsOf(place.sorts);
            for (int number = 0; number < rows; number++) {
                rowBecomes(place, number);
                reckon(place, row);
                if (number == 0 || compareShares(upper, lower, bestUpper, bestLower) > 0) {
                    bestUpper = upper;
                    bestLower = lower;
                    for (int s = 0; s < place.sorts; s++) set(bestRow, s, at(row, s));
                }
            }
            knowsBest = true;
        }
    }

    /** THE LINE as it is, and all COMERS there were. */
    private static final class Queue {
        private final int[] kinds = new int[MOST_COMERS];
        private final int[] sorts = new int[MOST_COMERS];
        private final int[] waited = new int[MOST_COMERS];
        private final int[] cameIn = new int[MOST_COMERS];
        private final int[] servedIn = new int[MOST_COMERS];
        private final int[] row = new int[LONGEST];
        private int comers;
        private int standing;
        private int minutes;

        void empties() {
            comers = 0;
            standing = 0;
            minutes = 0;
        }

        boolean has(int c) {
            return isWithin(c, 0, comers - 1);
        }

        boolean isFull() {
            return comers >= MOST_COMERS;
        }

        void allWait() {
            for (int k = 0; k < standing; k++) {
                int c = at(row, k);
                set(waited, c, at(waited, c) + 1);
            }
        }

        int nextBy(int order, Place place) {
            if (order == FIRST_COME) return 0;
            if (order == LAST_COME) return standing - 1;
            int next = 0;
            for (int k = 1; k < standing; k++) {
                if (worthOf(k, place) > worthOf(next, place)) next = k;
            }
            return next;
        }

        private int worthOf(int k, Place place) {
            return at(place.worths, at(sorts, at(row, k)));
        }

        int serve(int k) {
            int c = at(row, k);
            takeOut(k);
            set(kinds, c, DONE);
            set(servedIn, c, minutes);
            return c;
        }

        /** Whether the one who comes joins. */
        boolean comes(int sort, int bar) {
            boolean joins = standing < bar && standing < LONGEST;
            set(kinds, comers, joins ? STANDS : COMER);
            set(sorts, comers, sort);
            set(waited, comers, 0);
            set(cameIn, comers, minutes);
            set(servedIn, comers, NONE);
            if (joins) {
                set(row, standing, comers);
                standing++;
            }
            comers++;
            return joins;
        }

        int placeOf(int c) {
            for (int k = 0; k < standing; k++) {
                if (at(row, k) == c) return k;
            }
            return NONE;
        }

        void takeOut(int k) {
            for (int behind = k + 1; behind < standing; behind++) set(row, behind - 1, at(row, behind));
            standing--;
        }

        int done() {
            int all = 0;
            for (int c = 0; c < comers; c++) {
                if (at(kinds, c) == DONE) all++;
            }
            return all;
        }

        int envious() {
            int pairs = 0;
            for (int c = 0; c < comers; c++) {
                for (int later = c + 1; later < comers; later++) {
                    if (envies(c, later)) pairs++;
                }
            }
            return pairs;
        }

        private boolean envies(int c, int later) {
            return at(kinds, c) == DONE && at(kinds, later) == DONE && at(servedIn, c) > at(servedIn, later);
        }
    }
}
