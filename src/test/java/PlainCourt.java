import java.math.BigInteger;
import java.util.ArrayDeque;
import java.util.ArrayList;
import java.util.Arrays;
import java.util.Deque;
import java.util.HashSet;
import java.util.List;
import java.util.Map;
import java.util.TreeMap;

/**
 * The document once more, written as plainly as the Java library allows and without a look at how
 * ScreeCourt does it: rows are tried one by one, and counted by a determinant of big numbers.
 */
final class PlainCourt {
    /** Beyond so many standing rows, trying them all takes too long; how many come again is then 0. */
    static final int MOST_TRIED = 20000;

    /** All that undo() brings back. */
    private static final class State {
        long[] grains = new long[0];
        long[] ditches = new long[3];
        long[] odometer = new long[0];
        long seed = 1;
        List<Integer> row = new ArrayList<>();

        State copy() {
            State c = new State();
            c.grains = grains.clone();
            c.ditches = ditches.clone();
            c.odometer = odometer.clone();
            c.seed = seed;
            c.row = new ArrayList<>(row);
            return c;
        }
    }

    private List<Integer> kinds = new ArrayList<>();
    private List<Map<Integer, Integer>> ways = new ArrayList<>();
    private State now = new State();
    private Deque<State> past = new ArrayDeque<>();
    private boolean begun;
    private int lost;
    private int manner;
    private List<Integer> order = new ArrayList<>();
    private List<Integer> burnt = new ArrayList<>();
    private int unburnt;
    private long[][] slots = new long[8][];
    private List<long[]> listed = new ArrayList<>();
    private final long[][] terraces = new long[4][];
    private final int[] bits = new int[4];
    private final List<Integer> waiting = new ArrayList<>();
    private int findings;

    private long find(long finding) {
        findings++;
        return finding;
    }

    private boolean isPlace(int p) {
        return 0 <= p && p < kinds.size();
    }

    private boolean isPlaceOrDitch(int p) {
        return isPlace(p) || p == -1 || p == -2 || p == -3;
    }

    private boolean is(int p, int kind) {
        int k = kinds.get(p);
        switch (kind) {
            case 0: return true;
            case 1: return k == 1 || k == 2 || k == 3;
            case 2: return k == 2 || k == 3;
            default: return k == kind;
        }
    }

    private int load(int p) {
        int sum = 0;
        for (int w : ways.get(p).values()) {
            sum += w;
        }
        return sum;
    }

    private int between(int p, int to) {
        return ways.get(p).getOrDefault(to, 0);
    }

    long place(int kind) {
        if (begun) return find(-6);
        if (kind < 0 || kind > 4) return find(-1);
        if (kinds.size() == 12) return find(-5);
        kinds.add(kind);
        ways.add(new TreeMap<>());
        now.grains = new long[kinds.size()];
        now.odometer = new long[kinds.size()];
        return kinds.size() - 1;
    }

    long way(int p, int to, int weight) {
        if (begun) return find(-6);
        if (!isPlace(p) || !isPlaceOrDitch(to) || p == to || weight < 1 || weight > 9) return find(-1);
        if (weight != 1 && !is(p, 2) || to < 0 && !is(p, 3)) return find(-4);
        ways.get(p).merge(to, weight, Integer::sum);
        return load(p);
    }

    private boolean leadsToDitch(int p, HashSet<Integer> seen) {
        if (p < 0) return true;
        if (!seen.add(p)) return false;
        for (int to : ways.get(p).keySet()) {
            if (leadsToDitch(to, seen)) return true;
        }
        return false;
    }

    long begin() {
        if (begun) return find(-6);
        if (kinds.isEmpty()) return find(-11);
        int bad = 0;
        for (int p = 0; p < kinds.size(); p++) {
            if (!leadsToDitch(p, new HashSet<>())) bad |= 1 << p;
        }
        if (bad != 0) {
            lost = bad;
            return find(-7);
        }
        begun = true;
        return kinds.size();
    }

    long anew() {
        kinds = new ArrayList<>();
        ways = new ArrayList<>();
        now = new State();
        past = new ArrayDeque<>();
        begun = false;
        lost = 0;
        manner = 0;
        order = new ArrayList<>();
        burnt = new ArrayList<>();
        unburnt = 0;
        slots = new long[8][];
        listed = new ArrayList<>();
        return 0;
    }

    long as(int p, int kind) {
        if (!isPlace(p) || kind < 0 || kind > 4) return find(-1);
        return is(p, kind) ? p : find(-4);
    }

    long weight(int p, int to) {
        if (!isPlace(p) || !isPlaceOrDitch(to)) return find(-1);
        return between(p, to);
    }

    private void remember() {
        past.push(now.copy());
        if (past.size() > 20) past.removeLast();
    }

    long lay(int p, int g) {
        if (!isPlace(p)) return find(-1);
        if (!begun) return find(-8);
        if (now.grains[p] + g < 0) return find(-13);
        if (now.grains[p] + g > 1000000) return find(-5);
        remember();
        now.grains[p] += g;
        return now.grains[p];
    }

    long grains(int p) {
        if (!isPlaceOrDitch(p)) return find(-1);
        return p < 0 ? now.ditches[-1 - p] : now.grains[p];
    }

    private List<Integer> dueOnes(State s) {
        List<Integer> due = new ArrayList<>();
        for (int p = 0; p < kinds.size(); p++) {
            if (load(p) > 0 && s.grains[p] >= load(p)) due.add(p);
        }
        return due;
    }

    /** How often it slid; -5 when that is too much. */
    private long slideIn(State s, int p) {
        long times = is(p, 1) ? s.grains[p] / load(p) : 1;
        for (Map.Entry<Integer, Integer> w : ways.get(p).entrySet()) {
            if (w.getKey() >= 0 && s.grains[w.getKey()] + times * w.getValue() > 1000000) return -5;
        }
        s.grains[p] -= times * load(p);
        for (Map.Entry<Integer, Integer> w : ways.get(p).entrySet()) {
            if (w.getKey() >= 0) {
                s.grains[w.getKey()] += times * w.getValue();
            } else {
                s.ditches[-1 - w.getKey()] += times * w.getValue();
            }
        }
        s.odometer[p] += times;
        return times;
    }

    long due() {
        return dueOnes(now).size();
    }

    long slide(int p) {
        if (!isPlace(p)) return find(-1);
        if (!dueOnes(now).contains(p)) return find(-8);
        State then = now.copy();
        long times = slideIn(then, p);
        if (times < 0) return find(times);
        remember();
        now = then;
        return times;
    }

    long manner(int m, int seed) {
        if (m < 0 || m > 4 || m == 3 && seed < 0) return find(-1);
        if (!begun) return find(-8);
        if (m == 2) {
            if (waiting.size() != kinds.size()) return find(-1);
            for (int p = 0; p < kinds.size(); p++) {
                if (!waiting.contains(p)) return find(-1);
            }
            order = new ArrayList<>(waiting);
            waiting.clear();
        }
        if (m == 3) now.seed = seed;
        if (m == 4) now.row.clear();
        int was = manner;
        manner = m;
        past.clear();
        return was;
    }

    private int choose(List<Integer> due) {
        int best = due.get(0);
        if (manner == 1) {
            for (int p : due) {
                if (now.grains[p] > now.grains[best]) best = p;
            }
        } else if (manner == 2) {
            for (int i = order.size() - 1; i >= 0; i--) {
                if (due.contains(order.get(i))) best = order.get(i);
            }
        } else if (manner == 3) {
            BigInteger x = BigInteger.valueOf(now.seed).multiply(BigInteger.valueOf(1103515245));
            now.seed = x.add(BigInteger.valueOf(12345)).mod(BigInteger.valueOf(2147483648L)).longValue();
            best = due.get((int) (now.seed / 256 % due.size()));
        } else if (manner == 4) {
            do {
                if (now.row.isEmpty()) {
                    for (int p = 0; p < kinds.size(); p++) {
                        now.row.add(p);
                    }
                }
                best = now.row.remove(0);
            } while (!due.contains(best));
        }
        return best;
    }

    private void askEnds(int p) {
        List<Integer> ends = new ArrayList<>();
        for (int to : ways.get(p).keySet()) {
            if (to >= 0 && !now.row.contains(to)) ends.add(to);
        }
        now.row.addAll(is(p, 4) ? 0 : now.row.size(), ends);
    }

    long run(int n) {
        if (n < 1 || n > 5000) return find(-1);
        if (!begun) return find(-8);
        remember();
        int did = 0;
        while (true) {
            List<Integer> due = dueOnes(now);
            if (due.isEmpty()) return did;
            if (did == n) return find(-9);
            int p = choose(due);
            if (slideIn(now, p) < 0) return find(-5);
            if (manner == 4) askEnds(p);
            did++;
        }
    }

    long odometer(int p) {
        return isPlace(p) ? now.odometer[p] : find(-1);
    }

    long reset() {
        long moved = Arrays.stream(now.odometer).filter(o -> o != 0).count();
        Arrays.fill(now.odometer, 0);
        past.clear();
        return moved;
    }

    private boolean symmetric() {
        for (int p = 0; p < kinds.size(); p++) {
            for (int q = 0; q < kinds.size(); q++) {
                if (between(p, q) != between(q, p)) return false;
            }
        }
        return true;
    }

    long twoWay() {
        if (!begun) return find(-8);
        return symmetric() ? 1 : 0;
    }

    private List<Integer> burnOf(long[] row) {
        List<Integer> fire = new ArrayList<>();
        for (int p = 0; p < row.length; p++) {
            if (fire.contains(p)) continue;
            int need = 0;
            for (int q = 0; q < row.length; q++) {
                if (!fire.contains(q)) need += between(p, q);
            }
            if (row[p] >= need) {
                fire.add(p);
                p = -1;
            }
        }
        return fire;
    }

    long burn() {
        if (!begun || !dueOnes(now).isEmpty()) return find(-8);
        if (!symmetric()) return find(-12);
        burnt = burnOf(now.grains);
        unburnt = 0;
        for (int p = 0; p < kinds.size(); p++) {
            if (!burnt.contains(p)) unburnt |= 1 << p;
        }
        return unburnt == 0 ? 1 : 0;
    }

    long burnt(int k) {
        if (k == -1) return unburnt;
        return k >= 0 && k < burnt.size() ? burnt.get(k) : find(-11);
    }

    private boolean noSlot(int s) {
        return s < 0 || s > 7;
    }

    private static long sum(long[] row) {
        return Arrays.stream(row).sum();
    }

    long keep(int s) {
        if (noSlot(s)) return find(-1);
        if (!begun) return find(-8);
        slots[s] = now.grains.clone();
        return sum(slots[s]);
    }

    long bring(int s) {
        if (noSlot(s)) return find(-1);
        if (slots[s] == null) return find(-11);
        now.grains = slots[s].clone();
        past.clear();
        return sum(now.grains);
    }

    /** null: too much. */
    private long[] standing(long[] row) {
        State s = now.copy();
        s.grains = row.clone();
        for (long g : row) {
            if (g > 1000000) return null;
        }
        for (int did = 0; did <= 20000; did++) {
            List<Integer> due = dueOnes(s);
            if (due.isEmpty()) return s.grains;
            if (slideIn(s, due.get(0)) < 0) return null;
        }
        return null;
    }

    /** a times one row and b times the other. */
    private static long[] mix(long a, long[] one, long b, long[] other) {
        long[] row = new long[one.length];
        for (int p = 0; p < row.length; p++) {
            row[p] = a * one[p] + b * other[p];
        }
        return row;
    }

    private long comeTo(int s, long[] row) {
        if (row == null) return find(-5);
        slots[s] = row;
        return sum(row);
    }

    long plus(int s, int o, int to) {
        if (noSlot(s) || noSlot(o) || noSlot(to)) return find(-1);
        if (slots[s] == null || slots[o] == null) return find(-11);
        return comeTo(to, standing(mix(1, slots[s], 1, slots[o])));
    }

    private long[] leftOfA() {
        long[] a = new long[kinds.size()];
        for (int p = 0; p < a.length; p++) {
            a[p] = 2L * (load(p) - 1);
        }
        long[] stands = standing(a);
        return stands == null ? null : mix(1, a, -1, stands);
    }

    long nought(int to) {
        if (noSlot(to)) return find(-1);
        if (!begun) return find(-8);
        if (!symmetric()) return find(-12);
        long[] left = leftOfA();
        return comeTo(to, left == null ? null : standing(left));
    }

    long contrary(int s, int to) {
        if (noSlot(s) || noSlot(to)) return find(-1);
        if (slots[s] == null) return find(-11);
        if (!symmetric()) return find(-12);
        long[] left = leftOfA();
        long[] row = standing(slots[s]);
        return comeTo(to, left == null || row == null ? null : standing(mix(2, left, -1, row)));
    }

    /** By fractions that are whole: each step's division leaves no rest. */
    private BigInteger rowsThatComeAgain() {
        int n = kinds.size();
        BigInteger[][] m = new BigInteger[n][n];
        for (int p = 0; p < n; p++) {
            for (int q = 0; q < n; q++) {
                m[p][q] = BigInteger.valueOf(p == q ? load(p) : -between(p, q));
            }
        }
        BigInteger before = BigInteger.ONE;
        for (int k = 0; k < n - 1; k++) {
            for (int i = k + 1; i < n; i++) {
                for (int j = k + 1; j < n; j++) {
                    m[i][j] = m[i][j].multiply(m[k][k]).subtract(m[i][k].multiply(m[k][j])).divide(before);
                }
            }
            before = m[k][k];
        }
        return m[n - 1][n - 1];
    }

    long many(int p) {
        if (p > 30011 || p < 2 || !BigInteger.valueOf(p).isProbablePrime(30)) return find(-1);
        if (!begun) return find(-8);
        if (!symmetric()) return find(-12);
        return rowsThatComeAgain().mod(BigInteger.valueOf(p)).longValue();
    }

    private void tryRows(long[] row, int p) {
        if (p == row.length) {
            if (burnOf(row).size() == row.length) listed.add(row.clone());
            return;
        }
        for (row[p] = 0; row[p] < load(p); row[p]++) {
            tryRows(row, p + 1);
        }
    }

    /** Whether all standing rows are few enough to be tried. */
    boolean canList() {
        double all = 1;
        for (int p = 0; p < kinds.size(); p++) {
            all *= load(p);
        }
        return all <= MOST_TRIED;
    }

    long list() {
        if (!begun) return find(-8);
        if (!symmetric()) return find(-12);
        if (rowsThatComeAgain().compareTo(BigInteger.valueOf(200)) > 0) return find(-10);
        listed = new ArrayList<>();
        tryRows(new long[kinds.size()], 0);
        return listed.size();
    }

    long listed(int i, int p) {
        if (i < 0 || i >= listed.size()) return find(-11);
        return isPlace(p) ? listed.get(i)[p] : find(-1);
    }

    private boolean noTerrace(int t) {
        return t < 0 || t > 3;
    }

    long terrace(int t, int b, int n) {
        if (noTerrace(t) || !List.of(0, 8, 16, 32, 64).contains(b)) return find(-1);
        if (n < 0) return find(-3);
        if (n > 16) return find(-1);
        terraces[t] = b == 0 ? null : new long[n];
        bits[t] = b;
        return b == 0 ? 0 : n;
    }

    long put(int t, int i, long v) {
        if (noTerrace(t) || terraces[t] == null || i < 0 || i >= terraces[t].length) {
            find(-1);
            return Long.MIN_VALUE;
        }
        switch (bits[t]) {
            case 8: return terraces[t][i] = (byte) v;
            case 16: return terraces[t][i] = (short) v;
            case 32: return terraces[t][i] = (int) v;
            default: return terraces[t][i] = v;
        }
    }

    long copy(int t, int from, int u, int to, int n) {
        if (noTerrace(t) || noTerrace(u)) return find(-1);
        if (terraces[t] == null || terraces[u] == null) return find(-2);
        if (bits[t] != bits[u]) return find(-4);
        if (from < 0 || to < 0 || n < 0) return find(-1);
        if ((long) from + n > terraces[t].length || (long) to + n > terraces[u].length) return find(-1);
        long[] numbers = Arrays.copyOfRange(terraces[t], from, from + n);
        for (int i = 0; i < n; i++) {
            terraces[u][to + i] = numbers[i];
        }
        return n;
    }

    long spread(int t, int from, int n, int p) {
        if (noTerrace(t)) return find(-1);
        if (terraces[t] == null) return find(-2);
        if (from < 0 || n < 0 || (long) from + n > terraces[t].length) return find(-1);
        if (p < 0 || (long) p + n > kinds.size()) return find(-1);
        if (!begun) return find(-8);
        for (int i = 0; i < n; i++) {
            if (terraces[t][from + i] < 0) return find(-13);
        }
        for (int i = 0; i < n; i++) {
            BigInteger then = BigInteger.valueOf(now.grains[p + i]).add(BigInteger.valueOf(terraces[t][from + i]));
            if (then.compareTo(BigInteger.valueOf(1000000)) > 0) return find(-5);
        }
        remember();
        for (int i = 0; i < n; i++) {
            now.grains[p + i] += terraces[t][from + i];
        }
        return sum(now.grains);
    }

    long tell(int v) {
        if (waiting.size() == 200) return find(-5);
        waiting.add(v);
        return waiting.size();
    }

    private List<Integer> takeWaiting() {
        List<Integer> numbers = new ArrayList<>(waiting);
        waiting.clear();
        return numbers;
    }

    long enough() {
        List<Integer> counts = takeWaiting();
        if (!begun) return find(-8);
        if (counts.size() != kinds.size()) return find(-3);
        for (int c : counts) {
            if (c < 0 || c > 1000000) return find(-13);
        }
        State s = now.copy();
        for (int p = 0; p < counts.size(); p++) {
            s.grains[p] -= (long) counts.get(p) * load(p);
            for (int q = 0; q < counts.size(); q++) {
                s.grains[q] += (long) counts.get(p) * between(p, q);
            }
        }
        return dueOnes(s).isEmpty() ? 1 : 0;
    }

    long check() {
        List<Integer> numbers = takeWaiting();
        if (!begun) return find(-8);
        State s = now.copy();
        for (int k = 0; 2 * k < numbers.size(); k++) {
            if (2 * k + 1 == numbers.size()) return k + 1;
            int p = numbers.get(2 * k);
            if (!dueOnes(s).contains(p) || s.grains[p] != numbers.get(2 * k + 1)) return k + 1;
            if (slideIn(s, p) < 0) return find(-5);
        }
        return dueOnes(s).isEmpty() ? 0 : 1000;
    }

    long undo() {
        if (past.isEmpty()) return find(-11);
        now = past.pop();
        return past.size();
    }

    long told(int what) {
        switch (what) {
            case 0: return lost;
            case 1: return kinds.size();
            case 2: return begun ? 1 : 0;
            case 3: return begun && dueOnes(now).isEmpty() ? 1 : 0;
            case 4: return sum(now.grains);
            case 5: return waiting.size();
            case 6: return now.seed;
            case 7: return listed.size();
            case 8: return findings;
            default: return find(-1);
        }
    }
}
