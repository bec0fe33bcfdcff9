/** Long runs of calls on a ScreeCourt and on a PlainCourt: each call must answer the same. */
public final class TwinTest {
    private static final Answers ANSWERS = new Answers("TwinTest");
    private static final int RUNS = 4000;
    private static final int CALLS = 512;
    /** A step may be many calls, but never so many: the last one must still be within what is promised. */
    private static final int MOST_OF_A_STEP = 120;
    private static final int NAMES = 33;

    private long dice;
    private final ScreeCourt court = new ScreeCourt();
    private final PlainCourt plain = new PlainCourt();
    private int calls;
    private final int run;

    private TwinTest(int run) {
        this.run = run;
        dice = 88172645463325252L + 7919L * run;
    }

    public static void main(String[] args) {
        for (int run = 0; run < RUNS && ANSWERS.wrong() == 0; run++) {
            new TwinTest(run).callOn();
        }
        for (int weight = 60; weight <= 99 && ANSWERS.wrong() == 0; weight++) {
            new TwinTest(-weight).slideLong(weight);
        }
        ANSWERS.end();
    }

    private int below(int n) {
        dice ^= dice << 13;
        dice ^= dice >>> 7;
        dice ^= dice << 17;
        return (int) Long.remainderUnsigned(dice, n);
    }

    private boolean now(int oneIn) {
        return below(oneIn) == 0;
    }

    private void same(String call, long got, long want) {
        calls++;
        ANSWERS.due("run " + run + ", call " + calls + ": " + call, got, want);
    }

    private void callOn() {
        if (run % 4 == 0) {
            buildAnyhow();
        } else {
            buildTwoWay();
        }
        while (calls < CALLS - MOST_OF_A_STEP && ANSWERS.wrong() == 0) {
            if (now(150)) {
                same("anew()", court.anew(), plain.anew());
                buildTwoWay();
            } else if (now(25)) {
                tellSlides();
            } else if (now(25)) {
                tellOrder();
            } else if (now(25)) {
                tellCounts();
            } else {
                callAny(below(NAMES));
            }
        }
    }

    /** A line so heavy that NOUGHT and CONTRARY take about as many slides as they may. */
    private void slideLong(int weight) {
        for (int p = 0; p < 12; p++) {
            place(p == 0 ? 3 : 2);
        }
        way(0, -1, 1);
        for (int p = 1; p < 12; p++) {
            for (int left = weight; left > 0; left -= 9) {
                way(p, p - 1, Math.min(left, 9));
                way(p - 1, p, Math.min(left, 9));
            }
        }
        begin();
        same("nought(0)", court.nought(0), plain.nought(0));
        same("lay(5, 77)", court.lay(5, 77), plain.lay(5, 77));
        same("keep(1)", court.keep(1), plain.keep(1));
        same("contrary(1, 2)", court.contrary(1, 2), plain.contrary(1, 2));
    }

    /** What the test itself must know is asked of the plain one, so that the court's calls stay few. */
    private int places() {
        return (int) plain.told(1);
    }

    private int anyPlace() {
        return now(12) ? below(16) - 4 : below(Math.max(1, places()));
    }

    private int anyEnd() {
        return now(3) ? -1 - below(now(8) ? 5 : 3) : anyPlace();
    }

    private int anySlot() {
        return now(15) ? below(10) - 1 : below(now(3) ? 8 : 3);
    }

    private int anyTerrace() {
        return now(15) ? below(6) - 1 : below(4);
    }

    private int anyGrains() {
        switch (below(12)) {
            case 0: return 1000000 - below(3);
            case 1: return below(2000000) - 1000000;
            case 2: return -below(20);
            case 3: return below(40000);
            default: return below(25);
        }
    }

    private void way(int p, int to, int weight) {
        same("way(" + p + ", " + to + ", " + weight + ")", court.way(p, to, weight), plain.way(p, to, weight));
    }

    private void place(int kind) {
        same("place(" + kind + ")", court.place(kind), plain.place(kind));
    }

    private void begin() {
        same("begin()", court.begin(), plain.begin());
        same("told(0)", court.told(0), plain.told(0));
    }

    private void buildAnyhow() {
        int n = 1 + below(now(4) ? 12 : 5);
        for (int i = 0; i < n; i++) {
            place(now(2) ? 3 : below(5));
        }
        for (int i = below(30) + n; i >= 0; i--) {
            way(anyPlace(), anyEnd(), now(2) ? 1 : below(11));
        }
        begin();
    }

    private void buildTwoWay() {
        int n = 1 + below(now(6) ? 12 : 4);
        int heaviest = now(3) ? 9 : 2;
        for (int i = 0; i < n; i++) {
            place(i == 0 ? 3 : now(2) ? 3 : below(5));
        }
        way(0, -1 - below(3), 1 + below(heaviest));
        for (int p = 1; p < n; p++) {
            join(p, below(p), heaviest);
        }
        for (int i = below(n + 1); i > 0 && n > 1; i--) {
            int p = 1 + below(n - 1);
            join(p, below(p), heaviest);
        }
        if (now(6)) {
            way(anyPlace(), anyEnd(), 1);
        }
        begin();
    }

    private void join(int p, int q, int heaviest) {
        boolean heavy = isChute(p) & isChute(q);
        int weight = heavy ? 1 + below(heaviest) : 1;
        way(p, q, weight);
        way(q, p, weight);
    }

    private boolean isChute(int p) {
        long answer = plain.as(p, 2);
        same("as(" + p + ", 2)", court.as(p, 2), answer);
        return answer == p;
    }

    private void tell(int v) {
        same("tell(" + v + ")", court.tell(v), plain.tell(v));
    }

    /** Slides as they would be, told from a run in steps that is undone again. */
    private void tellSlides() {
        same("check()", court.check(), plain.check());
        if (places() == 0 || places() > 12 || plain.told(2) == 0) {
            return;
        }
        int steps = below(6);
        int done = 0;
        int[] told = new int[12];
        for (int i = 0; i < steps && plain.due() > 0; i++) {
            int p = below(places());
            int g = (int) plain.grains(p);
            int times = court.slide(p);
            long twin = plain.slide(p);
            same("slide(" + p + ")", times, twin);
            if (times >= 0) {
                told[2 * done] = p;
                told[2 * done + 1] = g;
                done++;
            }
        }
        for (int i = 0; i < done; i++) {
            same("undo()", court.undo(), plain.undo());
        }
        int cut = now(4) ? 1 : 0;
        for (int i = 0; i < 2 * done - cut; i++) {
            tell(now(12) ? told[i] + 1 : told[i]);
        }
        same("check()", court.check(), plain.check());
    }

    private void tellOrder() {
        int[] order = new int[Math.max(1, places())];
        for (int i = 0; i < order.length; i++) {
            int j = below(i + 1);
            order[i] = order[j];
            order[j] = i;
        }
        same("enough()", court.enough(), plain.enough());
        for (int p : order) {
            tell(now(40) ? below(14) : p);
        }
        same("manner(2, 0)", court.manner(2, 0), plain.manner(2, 0));
    }

    /** Often the counts that a run needs, sometimes one more or less. */
    private void tellCounts() {
        same("reset()", court.reset(), plain.reset());
        same("run(5000)", court.run(5000), plain.run(5000));
        int[] counts = new int[places()];
        for (int p = 0; p < counts.length; p++) {
            counts[p] = (int) plain.odometer(p);
        }
        same("undo()", court.undo(), plain.undo());
        same("enough()", court.enough(), plain.enough());
        for (int count : counts) {
            tell(now(8) ? count + below(3) - 1 : count);
        }
        same("enough()", court.enough(), plain.enough());
    }

    private void callAny(int name) {
        if (name < 17) {
            callOfGrains(name);
        } else if (name < 25) {
            callOfSlots(name);
        } else {
            callOfTerraces(name);
        }
    }

    private void callOfGrains(int name) {
        int p = anyPlace();
        switch (name) {
            case 0: case 1: case 2: {
                int g = anyGrains();
                same("lay(" + p + ", " + g + ")", court.lay(p, g), plain.lay(p, g));
                break;
            }
            case 3: case 4: {
                int n = now(9) ? below(6000) - 500 : below(12);
                same("run(" + n + ")", court.run(n), plain.run(n));
                break;
            }
            case 5: same("slide(" + p + ")", court.slide(p), plain.slide(p)); break;
            case 6: {
                int m = now(9) ? below(8) - 2 : below(5);
                int seed = now(9) ? -1 : below(Integer.MAX_VALUE);
                same("manner(" + m + ", " + seed + ")", court.manner(m, seed), plain.manner(m, seed));
                break;
            }
            case 7: case 8: same("undo()", court.undo(), plain.undo()); break;
            case 9: same("odometer(" + p + ")", court.odometer(p), plain.odometer(p)); break;
            case 10: {
                int e = anyEnd();
                same("grains(" + e + ")", court.grains(e), plain.grains(e));
                break;
            }
            case 11: same("due()", court.due(), plain.due()); break;
            case 12: {
                if (now(5)) {
                    same("reset()", court.reset(), plain.reset());
                }
                break;
            }
            case 13: same("twoWay()", court.twoWay(), plain.twoWay()); break;
            case 14: {
                int e = anyEnd();
                same("weight(" + p + ", " + e + ")", court.weight(p, e), plain.weight(p, e));
                break;
            }
            case 15: {
                int k = below(7) - 1;
                same("as(" + p + ", " + k + ")", court.as(p, k), plain.as(p, k));
                break;
            }
            default: callOfSlope(); break;
        }
    }

    private void callOfSlots(int name) {
        int a = anySlot();
        int b = anySlot();
        int c = anySlot();
        switch (name) {
            case 17: same("keep(" + a + ")", court.keep(a), plain.keep(a)); break;
            case 18: same("bring(" + a + ")", court.bring(a), plain.bring(a)); break;
            case 19: same("plus(" + a + ", " + b + ", " + c + ")", court.plus(a, b, c), plain.plus(a, b, c)); break;
            case 20: same("nought(" + a + ")", court.nought(a), plain.nought(a)); break;
            case 21: same("contrary(" + a + ", " + b + ")", court.contrary(a, b), plain.contrary(a, b)); break;
            case 22: {
                int p = now(2) ? 2 + below(20) : below(30020);
                same("many(" + p + ")", court.many(p), plain.many(p));
                break;
            }
            case 23: burnAndLook(); break;
            default: listAndLook(); break;
        }
    }

    private void burnAndLook() {
        same("burn()", court.burn(), plain.burn());
        for (int k = -1; k < 4; k++) {
            same("burnt(" + k + ")", court.burnt(k), plain.burnt(k));
        }
    }

    private void listAndLook() {
        if (!plain.canList()) {
            return;
        }
        if (now(3)) {
            same("list()", court.list(), plain.list());
        }
        for (int i = 0; i < 4; i++) {
            int k = below(now(3) ? 202 : Math.max(1, (int) plain.told(7))) - (now(20) ? 1 : 0);
            int p = anyPlace();
            same("listed(" + k + ", " + p + ")", court.listed(k, p), plain.listed(k, p));
        }
    }

    private void callOfTerraces(int name) {
        int t = anyTerrace();
        int u = anyTerrace();
        int i = below(now(9) ? 20 : 6) - (now(9) ? 2 : 0);
        int j = below(now(9) ? 20 : 6) - (now(9) ? 2 : 0);
        int n = below(6) - (now(9) ? 1 : 0);
        switch (name) {
            case 25: {
                int[] widths = {0, 8, 16, 32, 64, 64, 64, 9};
                int b = widths[below(8)];
                int size = below(now(9) ? 20 : 9) - (now(9) ? 2 : 0);
                same("terrace(" + t + ", " + b + ", " + size + ")", court.terrace(t, b, size), plain.terrace(t, b, size));
                break;
            }
            case 26: case 27: {
                long v = now(3) ? dice : now(9) ? below(1000002) : below(300);
                same("put(" + t + ", " + i + ", " + v + ")", court.put(t, i, v), plain.put(t, i, v));
                break;
            }
            case 28:
                same("copy(" + t + ", " + i + ", " + u + ", " + j + ", " + n + ")",
                        court.copy(t, i, u, j, n), plain.copy(t, i, u, j, n));
                break;
            case 29: case 30: {
                int p = anyPlace();
                same("spread(" + t + ", " + i + ", " + n + ", " + p + ")",
                        court.spread(t, i, n, p), plain.spread(t, i, n, p));
                break;
            }
            case 31: tell(now(2) ? below(14) - 1 : (int) dice); break;
            default: {
                int what = now(9) ? below(20) - 5 : below(9);
                same("told(" + what + ")", court.told(what), plain.told(what));
                break;
            }
        }
    }

    private void callOfSlope() {
        switch (below(3)) {
            case 0: place(below(6)); break;
            case 1: way(anyPlace(), anyEnd(), 1); break;
            default: begin(); break;
        }
    }
}
