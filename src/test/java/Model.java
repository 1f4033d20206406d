import java.util.ArrayList;
import java.util.List;
import java.util.regex.Matcher;
import java.util.regex.Pattern;

/**
 * The document told a second time, slowly and in another way than the class: big fractions, the whole table
 * of what a minute may bring, rows of equations, patterns for the TEXT, and COMERS that are objects.
 */
public final class Model {
    private static final int UNKNOWN = -1, OUTSIDE = -2, STATE = -3, FULL = -4, NONE = -9;
    private static final long LOST = Long.MIN_VALUE;

    static final class Sort {
        int twelfths;
        int worth;
        int bar;
    }

    class Comer {
        int number;
        int sort;
        int waited;
        int came;
        int served = NONE;

        int told() {
            return ownTold();
        }

        final int ownTold() {
            trace = 31 * trace + 1;
            return sort;
        }

        int called() {
            trace = 31 * trace + 4;
            return number;
        }
    }

    class Stands extends Comer {
        @Override
        int told() {
            trace = 31 * trace + 2;
            return ownTold() + 10 * waited;
        }
    }

    class Done extends Stands {
        @Override
        int told() {
            trace = 31 * trace + 3;
            return super.told() + ownTold();
        }

        @Override
        int called() {
            trace = 31 * trace + 5;
            return 90;
        }
    }

    /** What one minute may bring from a length: how likely, who comes, whether it joins, the next length. */
    private record Event(Fraction chance, int sort, int found, boolean joins, int next) {
    }

    private final Object[] sheets = new Object[4];
    private boolean isTold;
    private int served;
    private int cost;
    private List<Sort> sorts = new ArrayList<>();
    private int toll;
    private int step;
    private int lie;
    private int[] best;
    private List<Comer> comers = new ArrayList<>();
    private List<Integer> line = new ArrayList<>();
    private int minutes;
    private int order;
    private int trace;
    private int fault;

    // ---- sheets

    private static int size(Object row) {
        return row == null ? 0 : java.lang.reflect.Array.getLength(row);
    }

    private static int lane(Object row) {
        return row instanceof byte[] ? 0 : row instanceof short[] ? 1 : 2;
    }

    private static int read(Object row, int i) {
        return ((Number) java.lang.reflect.Array.get(row, i)).intValue();
    }

    private static boolean in(int v, int least, int most) {
        return least <= v && v <= most;
    }

    private int fails(int which) {
        fault = which;
        return -10 - which;
    }

    public int sheet(int k, int lane, int n) {
        fault = 0;
        if (!in(k, 0, 3)) return UNKNOWN;
        if (!in(lane, 0, 2) || n > 60) return OUTSIDE;
        if (n < 0) return fails(4);
        sheets[k] = lane == 0 ? new byte[n] : lane == 1 ? new short[n] : new int[n];
        return 1;
    }

    public int lose(int k) {
        if (!in(k, 0, 3)) return UNKNOWN;
        int had = sheets[k] == null ? 0 : 1;
        sheets[k] = null;
        return had;
    }

    public int put(int k, int i, int v) {
        fault = 0;
        if (!in(k, 0, 3)) return UNKNOWN;
        Object row = sheets[k];
        if (row == null) return fails(1);
        if (!in(i, 0, size(row) - 1)) return fails(3);
        if (row instanceof byte[] b) b[i] = (byte) v;
        if (row instanceof short[] s) s[i] = (short) v;
        if (row instanceof int[] w) w[i] = v;
        return 1;
    }

    public long cell(int k, int i, int lane) {
        fault = 0;
        if (!in(k, 0, 3) || !in(lane, 0, 2)) return LOST;
        Object row = sheets[k];
        int which = row != null && lane(row) != lane ? 2 : row == null ? 1 : !in(i, 0, size(row) - 1) ? 3 : 0;
        if (which != 0) {
            fault = which;
            return LOST;
        }
        return read(row, i);
    }

    // ---- place

    private static final Pattern SHAPE =
        Pattern.compile("m([0-9]{1,3});c([0-9]{1,3})(?:;s([0-9]{1,3})v([0-9]{1,3})){0,3}");

    public int place(int sheet, int lane, int i, int n) {
        fault = 0;
        if (!in(sheet, 0, 3)) return UNKNOWN;
        if (!in(lane, 0, 2)) return OUTSIDE;
        Object row = sheets[sheet];
        if (row != null && lane(row) != lane) return fails(2);
        if (row == null) return fails(1);
        if (n < 0) return fails(4);
        if (i < 0 || i > size(row) || (long) i + n > size(row)) return fails(3);
        StringBuilder b = new StringBuilder();
        for (int at = i; at < i + n; at++) {
            int code = read(row, at);
            b.append(in(code, 0, 127) ? (char) code : '?');
        }
        int first = firstFault(b.toString());
        if (first >= 0) return -100 - first;
        takes(b.toString());
        return sorts.size();
    }

    static int firstFault(String text) {
        int good = 0;
        while (good < text.length() && mayGoOn(text.substring(0, good + 1))) good++;
        int number = firstWrongNumber(text.substring(0, good));
        if (number >= 0) return number;
        return good < text.length() || !SHAPE.matcher(text).matches() ? good : -1;
    }

    private static boolean mayGoOn(String start) {
        Matcher m = SHAPE.matcher(start);
        return m.matches() || m.hitEnd();
    }

    private static int firstWrongNumber(String start) {
        Matcher m = Pattern.compile("([mcsv])([0-9]+)").matcher(start);
        int left = 11;
        while (m.find()) {
            int v = Integer.parseInt(m.group(2));
            char of = m.group(1).charAt(0);
            int least = of == 'v' ? 0 : 1;
            int most = of == 'm' ? 11 : of == 'c' ? 9 : of == 's' ? left : 999;
            if (v < least || v > most) return m.start(2);
            if (of == 's') left -= v;
        }
        return -1;
    }

    private void takes(String text) {
        String[] items = text.split(";");
        isTold = true;
        served = Integer.parseInt(items[0].substring(1));
        cost = Integer.parseInt(items[1].substring(1));
        sorts = new ArrayList<>();
        for (int k = 2; k < items.length; k++) {
            Sort sort = new Sort();
            sort.twelfths = Integer.parseInt(items[k].substring(1, items[k].indexOf('v')));
            sort.worth = Integer.parseInt(items[k].substring(items[k].indexOf('v') + 1));
            sorts.add(sort);
        }
        toll = 0;
        step = 0;
        lie = 0;
        best = null;
        comers = new ArrayList<>();
        line = new ArrayList<>();
        minutes = 0;
    }

    public int about(int what) {
        if (!in(what, 0, 5)) return OUTSIDE;
        if (!isTold) return STATE;
        int together = 0;
        for (Sort s : sorts) together += s.twelfths;
        return new int[] {served, cost, together, toll, step, lie}[what];
    }

    public int ofSort(int s, int what) {
        if (!in(s, 0, sorts.size() - 1)) return UNKNOWN;
        if (!in(what, 0, 3)) return OUTSIDE;
        Sort sort = sorts.get(s);
        return new int[] {sort.twelfths, sort.worth, sort.bar, hisBar(sort, toll, step, lie)}[what];
    }

    public int bar(int s, int v) {
        if (!in(s, 0, sorts.size() - 1)) return UNKNOWN;
        if (!in(v, 0, 5)) return OUTSIDE;
        int was = sorts.get(s).bar;
        sorts.get(s).bar = v;
        return was;
    }

    public int toll(int v) {
        if (!in(v, 0, 999)) return OUTSIDE;
        if (!isTold) return STATE;
        int was = toll;
        toll = v;
        return was;
    }

    public int board(int r, int newLie) {
        if (!in(r, 0, 20) || !in(newLie, -20, 20)) return OUTSIDE;
        if (!isTold) return STATE;
        if (r == 0 && step == 0 || r == step && newLie == lie) return 0;
        step = r;
        lie = r == 0 ? 0 : newLie;
        return 1;
    }

    public int bars(int what) {
        if (!in(what, 0, 2)) return OUTSIDE;
        if (!isTold) return STATE;
        int changed = 0;
        for (int s = 0; s < sorts.size(); s++) {
            Sort sort = sorts.get(s);
            int v = what == 0 ? hisBar(sort, toll, step, lie) : what == 1 ? best()[s] : 5;
            if (v != sort.bar) changed++;
            sort.bar = v;
        }
        return changed;
    }

    // ---- the long run

    private int[] barsNow() {
        int[] row = new int[sorts.size()];
        for (int s = 0; s < row.length; s++) row[s] = sorts.get(s).bar;
        return row;
    }

    private int[] twelfths() {
        int[] row = new int[sorts.size()];
        for (int s = 0; s < row.length; s++) row[s] = sorts.get(s).twelfths;
        return row;
    }

    /** All that a minute may bring from a length; of a sort one who would join does so by k twelfths. */
    private List<Event> events(int length, int[] bars, int k) {
        List<Event> all = new ArrayList<>();
        int[] coming = twelfths();
        for (int go = 0; go <= (length > 0 ? 1 : 0); go++) {
            Fraction chance = length == 0 ? Fraction.ONE : Fraction.of(go == 1 ? served : 12 - served, 12);
            int found = length - go;
            int none = 12;
            for (int s = 0; s < coming.length; s++) {
                none -= coming[s];
                Fraction comes = chance.times(Fraction.of(coming[s], 12));
                Fraction will = found < bars[s] ? Fraction.of(k, 12) : Fraction.ZERO;
                all.add(new Event(comes.times(will), s, found, true, found + 1));
                all.add(new Event(comes.times(Fraction.ONE.minus(will)), s, found, false, found));
            }
            all.add(new Event(chance.times(Fraction.of(none, 12)), NONE, found, false, found));
        }
        return all;
    }

    private Fraction[][] table(int[] bars, int k) {
        Fraction[][] table = new Fraction[6][6];
        for (int n = 0; n < 6; n++) {
            java.util.Arrays.fill(table[n], Fraction.ZERO);
            for (Event e : events(n, bars, k)) {
                if (!e.chance().isZero()) table[n][e.next()] = table[n][e.next()].plus(e.chance());
            }
        }
        return table;
    }

    /** The shares that a minute leaves as they are, together 1. */
    private Fraction[] shares(int[] bars, int k) {
        Fraction[][] table = table(bars, k);
        Fraction[][] rows = new Fraction[6][7];
        for (int to = 0; to < 6; to++) {
            for (int from = 0; from < 6; from++) {
                rows[to][from] = to == 0 ? Fraction.ONE
                    : table[from][to].minus(from == to ? Fraction.ONE : Fraction.ZERO);
            }
            rows[to][6] = to == 0 ? Fraction.ONE : Fraction.ZERO;
        }
        return Fraction.solve(rows);
    }

    private static Fraction meanOf(Fraction[] shares) {
        Fraction mean = Fraction.ZERO;
        for (int n = 0; n < 6; n++) mean = mean.plus(shares[n].times(Fraction.whole(n)));
        return mean;
    }

    public long often(int n, int which) {
        if (!in(n, 0, 5) || !in(which, 0, 1) || !isTold) return LOST;
        return shares(barsNow(), 12)[n].part(which);
    }

    public long mean(int which) {
        if (!in(which, 0, 1) || !isTold) return LOST;
        return meanOf(shares(barsNow(), 12)).part(which);
    }

    public long on(int s, int which) {
        if (!in(s, 0, sorts.size() - 1) || !in(which, 0, 1)) return LOST;
        Fraction[] shares = shares(barsNow(), 12);
        Fraction come = Fraction.ZERO;
        Fraction goOn = Fraction.ZERO;
        for (int n = 0; n < 6; n++) {
            for (Event e : events(n, barsNow(), 12)) {
                if (e.sort() != s) continue;
                come = come.plus(e.chance().times(shares[n]));
                if (!e.joins()) goOn = goOn.plus(e.chance().times(shares[n]));
            }
        }
        return goOn.by(come).part(which);
    }

    public long less(int n, int which) {
        if (!in(n, 1, 5) || !in(which, 0, 1) || !isTold) return LOST;
        if (shares(barsNow(), 12)[n].isZero()) return LOST;
        Fraction[][] table = table(barsNow(), 12);
        int many = 6 - n;
        Fraction[][] rows = new Fraction[many][many + 1];
        for (int r = 0; r < many; r++) {
            for (int c = 0; c < many; c++) {
                rows[r][c] = (r == c ? Fraction.ONE : Fraction.ZERO).minus(table[n + r][n + c]);
            }
            rows[r][many] = Fraction.ONE;
        }
        return Fraction.solve(rows)[0].part(which);
    }

    public long after(int t, int n, int k, int which) {
        if (!in(t, 0, 8) || !in(n, 0, 5) || !in(k, 0, 5) || !in(which, 0, 1) || !isTold) return LOST;
        return reach(table(barsNow(), 12), t, n, k).part(which);
    }

    private static Fraction reach(Fraction[][] table, int t, int n, int k) {
        Fraction[] to = new Fraction[6];
        for (int i = 0; i < 6; i++) to[i] = i == k ? Fraction.ONE : Fraction.ZERO;
        for (int minute = 0; minute < t; minute++) {
            Fraction[] before = new Fraction[6];
            for (int i = 0; i < 6; i++) {
                before[i] = Fraction.ZERO;
                for (int j = 0; j < 6; j++) before[i] = before[i].plus(table[i][j].times(to[j]));
            }
            to = before;
        }
        return to[n];
    }

    // ---- bars

    private Fraction minutesOf(int n) {
        return Fraction.of(12L * (n + 1), served);
    }

    private int toldMinutes(int n, int r, int wrong) {
        int told = 0;
        while (Fraction.whole(told).compareTo(minutesOf(n)) < 0) told += r;
        return Math.max(told + wrong, 0);
    }

    private int hisBar(Sort sort, int withToll, int r, int wrong) {
        int bar = 0;
        for (int n = 1; n <= 5; n++) {
            Fraction minutes = r == 0 ? minutesOf(n - 1) : Fraction.whole(toldMinutes(n - 1, r, wrong));
            Fraction left = Fraction.whole(sort.worth - withToll);
            if (left.compareTo(minutes.times(Fraction.whole(cost))) >= 0) bar = n;
        }
        return bar;
    }

    private Fraction gainOf(int[] bars) {
        Fraction[] shares = shares(bars, 12);
        Fraction gain = Fraction.ZERO.minus(meanOf(shares).times(Fraction.whole(cost)));
        for (int n = 0; n < 6; n++) {
            for (Event e : events(n, bars, 12)) {
                if (!e.joins()) continue;
                gain = gain.plus(e.chance().times(shares[n]).times(Fraction.whole(sorts.get(e.sort()).worth)));
            }
        }
        return gain;
    }

    private int[] rowOf(int number) {
        int[] row = new int[sorts.size()];
        for (int s = row.length - 1; s >= 0; s--) {
            row[s] = number % 6;
            number /= 6;
        }
        return row;
    }

    private int[] best() {
        if (best != null) return best;
        Fraction most = null;
        for (int number = 0; number < (int) Math.pow(6, sorts.size()); number++) {
            Fraction gain = gainOf(rowOf(number));
            if (most == null || gain.compareTo(most) > 0) {
                most = gain;
                best = rowOf(number);
            }
        }
        return best;
    }

    public long minutes(int n, int which) {
        if (!in(n, 0, 5) || !in(which, 0, 2) || !isTold) return LOST;
        if (which < 2) return minutesOf(n).part(which);
        return step > 0 ? toldMinutes(n, step, lie) : minutesOf(n).upper.divide(minutesOf(n).lower).longValue();
    }

    public long gain(int which) {
        if (!in(which, 0, 1) || !isTold) return LOST;
        return gainOf(barsNow()).part(which);
    }

    public int best(int s) {
        return in(s, 0, sorts.size() - 1) ? best()[s] : UNKNOWN;
    }

    public int against(int bars, int others) {
        int last = (int) Math.pow(6, sorts.size()) - 1;
        if (!in(bars, 0, last) || !in(others, 0, last)) return OUTSIDE;
        if (!isTold) return STATE;
        return gainOf(rowOf(bars)).compareTo(gainOf(rowOf(others)));
    }

    public int mends(int what) {
        if (!in(what, 0, 2)) return OUTSIDE;
        if (!isTold) return STATE;
        List<Integer> tolls = new ArrayList<>();
        for (int v = 0; v <= 999; v++) {
            boolean all = true;
            for (int s = 0; s < sorts.size() && all; s++) all = hisBar(sorts.get(s), v, 0, 0) == best()[s];
            if (all) tolls.add(v);
        }
        if (what == 2) return tolls.size();
        return tolls.isEmpty() ? NONE : tolls.get(what == 0 ? 0 : tolls.size() - 1);
    }

    public long blind(int k, int n, int which) {
        if (!in(k, 0, 12) || !in(n, 0, 4) || !in(which, 0, 1) || sorts.size() != 1) return LOST;
        return shares(new int[] {4}, k)[n].part(which);
    }

    public int rest() {
        if (sorts.size() != 1) return STATE;
        int rest = 0;
        for (int k = 1; k <= 12; k++) {
            Fraction[] shares = shares(new int[] {4}, k);
            Fraction join = Fraction.ZERO;
            Fraction all = Fraction.ZERO;
            for (int n = 0; n < 6; n++) {
                for (Event e : events(n, new int[] {4}, k)) {
                    if (!e.joins()) continue;
                    Fraction chance = e.chance().times(shares[n]);
                    join = join.plus(chance);
                    all = all.plus(chance.times(minutesOf(e.found())));
                }
            }
            Fraction costs = all.by(join).times(Fraction.whole(cost));
            if (Fraction.whole(sorts.get(0).worth).compareTo(costs) >= 0) rest = k;
        }
        return rest;
    }

    // ---- the line

    public int order(int v) {
        if (!in(v, 0, 2)) return OUTSIDE;
        int was = order;
        order = v;
        return was;
    }

    public int minute(int first, int second) {
        if (!in(first, 0, 11) || !in(second, 0, 11)) return OUTSIDE;
        if (!isTold) return STATE;
        List<Integer> drawn = new ArrayList<>();
        for (int s = 0; s < sorts.size(); s++) {
            for (int k = 0; k < sorts.get(s).twelfths; k++) drawn.add(s);
        }
        boolean comes = second < drawn.size();
        if (comes && comers.size() == 40) return FULL;
        int answer = 0;
        for (int c : line) comers.get(c).waited++;
        if (!line.isEmpty() && first < served) {
            int c = next();
            line.remove((Integer) c);
            Done done = new Done();
            copy(comers.get(c), done);
            done.served = minutes;
            comers.set(c, done);
            answer = 100 * (c + 1);
        }
        if (comes) {
            boolean joins = line.size() < sorts.get(drawn.get(second)).bar;
            Comer comer = joins ? new Stands() : new Comer();
            comer.number = comers.size();
            comer.sort = drawn.get(second);
            comer.came = minutes;
            if (joins) line.add(comers.size());
            comers.add(comer);
            answer += joins ? 2 : 1;
        }
        minutes++;
        return answer;
    }

    private int next() {
        if (order == 0) return line.get(0);
        if (order == 1) return line.get(line.size() - 1);
        int most = -1;
        int who = NONE;
        for (int c : line) {
            int worth = sorts.get(comers.get(c).sort).worth;
            if (worth > most) {
                most = worth;
                who = c;
            }
        }
        return who;
    }

    private static void copy(Comer from, Comer to) {
        to.number = from.number;
        to.sort = from.sort;
        to.waited = from.waited;
        to.came = from.came;
        to.served = from.served;
    }

    private static int kind(Comer comer) {
        return comer instanceof Done ? 2 : comer instanceof Stands ? 1 : 0;
    }

    public int ofComer(int c, int what) {
        if (!in(c, 0, comers.size() - 1)) return UNKNOWN;
        if (!in(what, 0, 5)) return OUTSIDE;
        Comer x = comers.get(c);
        int left = x instanceof Done ? sorts.get(x.sort).worth - cost * x.waited : 0;
        return new int[] {kind(x), x.sort, x.waited, x.came, x.served, left}[what];
    }

    public int leave(int c) {
        if (!in(c, 0, comers.size() - 1)) return UNKNOWN;
        if (!line.contains(c)) return STATE;
        Comer gone = new Comer();
        copy(comers.get(c), gone);
        comers.set(c, gone);
        line.remove((Integer) c);
        return line.size();
    }

    public int line(int k) {
        if (!in(k, -1, 4)) return UNKNOWN;
        return k == -1 ? line.size() : k < line.size() ? line.get(k) : NONE;
    }

    public int envy() {
        int pairs = 0;
        for (Comer one : comers) {
            for (Comer other : comers) {
                if (!(one instanceof Done) || !(other instanceof Done)) continue;
                if (one.came < other.came && one.served > other.served) pairs++;
            }
        }
        return pairs;
    }

    // ---- parts

    public int tell(int c) {
        return in(c, 0, comers.size() - 1) ? comers.get(c).told() : UNKNOWN;
    }

    public int call(int c) {
        return in(c, 0, comers.size() - 1) ? comers.get(c).called() : UNKNOWN;
    }

    public int as(int c, int kind) {
        fault = 0;
        if (!in(c, 0, comers.size() - 1)) return UNKNOWN;
        if (!in(kind, 0, 2)) return OUTSIDE;
        return kind(comers.get(c)) >= kind ? 1 : fails(2);
    }

    public int trace() {
        return trace;
    }

    public int fault() {
        return fault;
    }

    public int many(int what) {
        if (!in(what, 0, 4)) return OUTSIDE;
        int done = 0;
        for (Comer c : comers) if (c instanceof Done) done++;
        return new int[] {sorts.size(), comers.size(), line.size(), done, minutes}[what];
    }
}
