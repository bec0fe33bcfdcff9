import java.util.List;
import java.util.function.Supplier;
import java.util.function.ToLongFunction;

/** Promises 27 to 35: at each number that is named, the last input that is still taken and the first that is not. */
public final class ToldEdgesTest {
    private static final Answers ANSWERS = new Answers("ToldEdgesTest");
    private static final int MAX = Integer.MAX_VALUE;
    private static final int MIN = Integer.MIN_VALUE;
    private static final int MILLION = 1000000;

    public static void main(String[] args) {
        terraceSizes();
        terraceBits();
        terraceMissing();
        putsByBits();
        putsAtTheEnds();
        copiesAtTheEnds();
        copiesWithin();
        copiesOfEachWidth();
        spreadsAtTheEnds();
        spreadsToTheLimit();
        numbersThatWait();
        enoughOfTwelve();
        numbersOfBefore();
        enoughAtTheLoad();
        enoughBeyondInt();
        checkOfNone();
        checkOfHundredPairs();
        checkToTheLimit();
        checkLeaves();
        undoIsAsBefore();
        undoOfTwenty();
        undoOfNothing();
        undoBehindOthers();
        tolds();
        findingsOfAllCalls();
        ANSWERS.end();
    }

    private static void due(String call, long got, long want) {
        ANSWERS.due(call, got, want);
    }

    private static void terraceSizes() {
        for (int bits : new int[] {8, 16, 32, 64}) {
            ScreeCourt x = new ScreeCourt();
            due("27: 16 of " + bits, x.terrace(3, bits, 16), 16);
            due("28: number 15", x.put(3, 15, 5), 5);
            due("28: number 16", x.put(3, 16, 5), Long.MIN_VALUE);
            due("27: 17 of " + bits, x.terrace(3, bits, 17), Findings.BEYOND);
            due("27: MAX of " + bits, x.terrace(3, bits, MAX), Findings.BEYOND);
            due("27: -1 of " + bits, x.terrace(3, bits, -1), Findings.SIZE);
            due("27: MIN of " + bits, x.terrace(3, bits, MIN), Findings.SIZE);
            due("27: 0 of " + bits, x.terrace(3, bits, 0), 0);
            due("28: it has no number", x.put(3, 0, 5), Long.MIN_VALUE);
            due("29: but is not MISSING", x.copy(3, 0, 3, 0, 0), 0);
            due("27: 1 of " + bits, x.terrace(3, bits, 1), 1);
            due("28: number 0", x.put(3, 0, 5), 5);
            due("28: number 1", x.put(3, 1, 5), Long.MIN_VALUE);
        }
        ScreeCourt x = new ScreeCourt();
        due("27: terrace 0", x.terrace(0, 8, 2), 2);
        due("27: terrace 3", x.terrace(3, 8, 2), 2);
        due("27: terrace -1", x.terrace(-1, 8, 2), Findings.BEYOND);
        due("27: terrace 4", x.terrace(4, 8, 2), Findings.BEYOND);
        due("27: terrace MIN", x.terrace(MIN, 8, 2), Findings.BEYOND);
        due("27: terrace MAX", x.terrace(MAX, 8, 2), Findings.BEYOND);
    }

    private static void terraceBits() {
        for (int bits = -70; bits <= 140; bits++) {
            boolean taken = bits == 0 || bits == 8 || bits == 16 || bits == 32 || bits == 64;
            int want = !taken ? Findings.BEYOND : bits == 0 ? 0 : 3;
            due("27: bits " + bits, new ScreeCourt().terrace(0, bits, 3), want);
        }
        due("27: bits MIN", new ScreeCourt().terrace(0, MIN, 3), Findings.BEYOND);
        due("27: bits MAX", new ScreeCourt().terrace(0, MAX, 3), Findings.BEYOND);
    }

    private static void terraceMissing() {
        ScreeCourt x = new ScreeCourt();
        x.terrace(1, 8, 3);
        due("27: bits 0 with n", x.terrace(1, 0, 16), 0);
        due("28: MISSING", x.put(1, 0, 1), Long.MIN_VALUE);
        due("29: MISSING", x.copy(1, 0, 1, 0, 0), Findings.MISSING);
        due("30: MISSING", x.spread(1, 0, 0, 0), Findings.MISSING);
        due("27: bits 0 of a MISSING one", x.terrace(1, 0, 0), 0);
        due("27: n is asked all the same", x.terrace(1, 0, -1), Findings.SIZE);
        due("27: n is asked all the same", x.terrace(1, 0, 17), Findings.BEYOND);
        ScreeCourt y = Findings.pair();
        y.terrace(0, 16, 2);
        y.put(0, 0, 7);
        y.put(0, 1, 8);
        y.terrace(0, 0, 0);
        y.terrace(0, 16, 2);
        due("27: all are 0", y.spread(0, 0, 2, 0), 0);
        y.put(0, 1, 8);
        y.terrace(0, 32, 2);
        due("27: all are 0, of other bits, too", y.spread(0, 0, 2, 0), 0);
        y.terrace(0, 16, 1);
        y.put(0, 0, 5);
        y.terrace(0, 16, 2);
        due("27: all are 0, of more, too", y.spread(0, 0, 2, 0), 0);
    }

    private static void putsByBits() {
        ScreeCourt x = new ScreeCourt();
        int[] widths = {8, 16, 32, 64};
        for (int t = 0; t < 4; t++) {
            int bits = widths[t];
            x.terrace(t, bits, 1);
            long high = bits == 64 ? Long.MAX_VALUE : (1L << (bits - 1)) - 1;
            long low = -high - 1;
            due("28: the highest of " + bits, x.put(t, 0, high), high);
            due("28: one above", x.put(t, 0, high + 1), low);
            due("28: the lowest of " + bits, x.put(t, 0, low), low);
            due("28: one below", x.put(t, 0, low - 1), high);
            due("28: -1", x.put(t, 0, -1), -1);
            due("28: 0", x.put(t, 0, 0), 0);
            due("28: all bits", x.put(t, 0, 2 * high + 1), -1);
            due("28: the highest long", x.put(t, 0, Long.MAX_VALUE), bits == 64 ? Long.MAX_VALUE : -1);
            due("28: the lowest long", x.put(t, 0, Long.MIN_VALUE), bits == 64 ? Long.MIN_VALUE : 0);
        }
        due("35: none is a finding, not even Long.MIN_VALUE of 64 bits", x.told(8), 0);
        ScreeCourt y = Findings.pair();
        y.terrace(0, 8, 1);
        y.put(0, 0, 256 + 77);
        due("28: that is what it becomes", y.spread(0, 0, 1, 0), 77);
        y.put(0, 0, 128);
        due("28: and its sign", y.spread(0, 0, 1, 0), Findings.DEBT);
    }

    private static void putsAtTheEnds() {
        ScreeCourt x = new ScreeCourt();
        x.terrace(0, 32, 16);
        x.terrace(3, 32, 16);
        int counted = 0;
        int[][] wrong = {{-1, 0}, {4, 0}, {MIN, 0}, {MAX, 0}, {1, 0}, {2, 15}, {0, -1}, {0, 16}, {3, MIN}, {3, MAX}};
        for (int[] w : wrong) {
            due("28: put(" + w[0] + ", " + w[1] + ")", x.put(w[0], w[1], 1), Long.MIN_VALUE);
            counted++;
            due("35: counted", x.told(8), counted);
        }
        due("28: put(0, 0)", x.put(0, 0, 9), 9);
        due("28: put(3, 15)", x.put(3, 15, 9), 9);
        due("35: not counted", x.told(8), counted);
    }

    private static void copiesAtTheEnds() {
        ScreeCourt x = new ScreeCourt();
        x.terrace(0, 8, 16);
        x.terrace(3, 8, 5);
        int[][] right = {{0, 0, 5}, {11, 0, 5}, {15, 4, 1}, {16, 5, 0}, {16, 0, 0}, {0, 5, 0}, {0, 0, 0}};
        for (int[] r : right) {
            due("29: " + r[2] + " from " + r[0] + " to " + r[1], x.copy(0, r[0], 3, r[1], r[2]), r[2]);
            due("29: and back", x.copy(3, r[1], 0, r[0], r[2]), r[2]);
        }
        int[][] wrong = {
            {12, 0, 5}, {0, 1, 5}, {16, 4, 1}, {15, 5, 1}, {17, 5, 0}, {16, 6, 0}, {0, 0, 6}, {-1, 0, 1}, {0, -1, 1},
            {0, 0, -1}, {-1, 0, 0}, {0, -1, 0}, {MAX, 0, MAX}, {0, MAX, MAX}, {1, 0, MAX}, {MIN, 0, 0}, {0, 0, MIN},
            {MAX, 0, 1}, {5, 5, -5}, {-1, -1, 2},
        };
        for (int[] w : wrong) {
            String which = w[2] + " from " + w[0] + " to " + w[1];
            due("29: " + which, x.copy(0, w[0], 3, w[1], w[2]), Findings.BEYOND);
            due("29: and back, " + which, x.copy(3, w[1], 0, w[0], w[2]), Findings.BEYOND);
        }
        for (int t : new int[] {-1, 4, MIN, MAX}) {
            due("29: from terrace " + t, x.copy(t, 0, 0, 0, 1), Findings.BEYOND);
            due("29: to terrace " + t, x.copy(0, 0, t, 0, 1), Findings.BEYOND);
        }
        due("29: from a MISSING one", x.copy(1, 0, 0, 0, 0), Findings.MISSING);
        due("29: to a MISSING one", x.copy(0, 0, 1, 0, 0), Findings.MISSING);
    }

    /** All sixteen numbers, one behind the other, of a terrace of 16. */
    private static void numbersAre(String which, ScreeCourt x, int t, int[] numbers) {
        for (int i = 0; i < numbers.length; i++) {
            x.lay(0, -(int) x.grains(0));
            due(which + ", number " + i, x.spread(t, i, 1, 0), numbers[i]);
        }
    }

    private static void copiesWithin() {
        for (int shift = -15; shift <= 15; shift++) {
            ScreeCourt x = Findings.line(9);
            x.terrace(2, 16, 16);
            int[] numbers = new int[16];
            for (int i = 0; i < 16; i++) {
                numbers[i] = i + 100;
                x.put(2, i, i + 100);
            }
            int n = 16 - Math.abs(shift);
            int from = Math.max(0, -shift);
            int to = Math.max(0, shift);
            due("29: within one, by " + shift, x.copy(2, from, 2, to, n), n);
            System.arraycopy(numbers.clone(), from, numbers, to, n);
            numbersAre("29: within one, by " + shift, x, 2, numbers);
        }
    }

    private static void copiesOfEachWidth() {
        int[] widths = {8, 16, 32, 64};
        for (int one : widths) {
            for (int other : widths) {
                ScreeCourt x = new ScreeCourt();
                x.terrace(0, one, 2);
                x.terrace(1, other, 2);
                due("29: " + one + " bits to " + other, x.copy(0, 0, 1, 0, 2), one == other ? 2 : Findings.KIND);
            }
        }
        ScreeCourt x = Findings.line(9);
        x.terrace(0, 64, 1);
        x.terrace(1, 64, 3);
        x.put(0, 0, 4294967297L);
        x.copy(0, 0, 1, 2, 1);
        due("29: all bits come", x.spread(1, 2, 1, 0), Findings.FULL);
        due("29: to that one alone", x.spread(1, 0, 2, 0), Findings.BEYOND);
        due("29: to that one alone", x.spread(1, 1, 1, 0), 0);
    }

    private static ScreeCourt twelve() {
        ScreeCourt x = new ScreeCourt();
        for (int p = 0; p < 12; p++) {
            x.place(Findings.RIM);
            x.way(p, -1, 9);
        }
        x.begin();
        x.terrace(3, 32, 16);
        for (int i = 0; i < 16; i++) {
            x.put(3, i, i + 1);
        }
        return x;
    }

    private static void spreadsAtTheEnds() {
        ScreeCourt x = twelve();
        due("30: twelve", x.spread(3, 4, 12, 0), 5 * 12 + 66);
        due("9: the first", x.grains(0), 5);
        due("9: the last", x.grains(11), 16);
        due("30: none, behind all", x.spread(3, 16, 0, 12), 126);
        due("30: none", x.spread(3, 0, 0, 0), 126);
        due("30: one at the last", x.spread(3, 15, 1, 11), 142);
        due("30: one at the first", x.spread(3, 0, 1, 0), 143);
        int[][] wrong = {
            {5, 12, 0}, {4, 13, 0}, {0, 12, 1}, {0, 13, 0}, {0, 1, 12}, {16, 1, 0}, {17, 0, 0}, {16, 0, 13}, {-1, 1, 0},
            {0, -1, 0}, {0, 1, -1}, {-1, 0, 0}, {0, 0, -1}, {MAX, 1, 0}, {0, MAX, 0}, {0, 1, MAX}, {1, MAX, 1},
            {MIN, 0, 0}, {0, MIN, 0}, {0, 0, MIN}, {1, 0, MAX}, {3, -3, 3},
        };
        for (int[] w : wrong) {
            due("30: " + w[1] + " from " + w[0] + " at " + w[2], x.spread(3, w[0], w[1], w[2]), Findings.BEYOND);
        }
        for (int t : new int[] {-1, 4, MIN, MAX}) {
            due("30: terrace " + t, x.spread(t, 0, 0, 0), Findings.BEYOND);
        }
        due("35: nothing came of these", x.told(4), 143);
        ScreeCourt idle = new ScreeCourt();
        idle.terrace(0, 8, 1);
        due("30: no places, none needed: IDLE", idle.spread(0, 0, 0, 0), Findings.IDLE);
        due("30: no places, one needed: BEYOND", idle.spread(0, 0, 1, 0), Findings.BEYOND);
    }

    private static void spreadsToTheLimit() {
        for (int at = 0; at < 12; at++) {
            ScreeCourt x = twelve();
            x.lay(at, MILLION - at - 1);
            due("30: just fits at " + at, x.spread(3, 0, 12, 0), MILLION - at - 1 + 78);
            due("9: the limit", x.grains(at), MILLION);
            ScreeCourt y = twelve();
            y.lay(at, MILLION - at);
            due("30: one too many at " + at, y.spread(3, 0, 12, 0), Findings.FULL);
            due("35: nothing came", y.told(4), MILLION - at);
            y.put(3, 11 - at, -1);
            due("30: below 0", y.spread(3, 0, 12, 0), Findings.DEBT);
            due("35: nothing came", y.told(4), MILLION - at);
        }
        ScreeCourt x = twelve();
        x.terrace(0, 64, 4);
        x.put(0, 0, MILLION);
        x.put(0, 1, MILLION + 1);
        x.put(0, 2, Long.MAX_VALUE);
        x.put(0, 3, 4294967296L + 5);
        due("30: 1000001", x.spread(0, 1, 1, 0), Findings.FULL);
        due("30: the highest", x.spread(0, 2, 1, 0), Findings.FULL);
        due("30: more than an int", x.spread(0, 3, 1, 0), Findings.FULL);
        x.lay(5, MILLION);
        due("30: the highest at a full place", x.spread(0, 2, 1, 5), Findings.FULL);
        due("30: 1000000", x.spread(0, 0, 1, 0), 2 * MILLION);
        due("30: and again", x.spread(0, 0, 1, 0), Findings.FULL);
    }

    private static void numbersThatWait() {
        ScreeCourt x = new ScreeCourt();
        due("31: MIN", x.tell(MIN), 1);
        due("31: MAX", x.tell(MAX), 2);
        for (int i = 3; i <= 199; i++) {
            x.tell(-i);
        }
        due("31: the 200th", x.tell(0), 200);
        due("31: the 201st", x.tell(0), Findings.FULL);
        due("35: 200 wait", x.told(5), 200);
        x.anew();
        due("35: 200 wait behind anew()", x.told(5), 200);
        due("31: still FULL", x.tell(0), Findings.FULL);
        due("32: IDLE", x.enough(), Findings.IDLE);
        due("35: none waits", x.told(5), 0);
        due("31: the first", x.tell(0), 1);
    }

    private static int enoughOf(ScreeCourt x, int count, int... numbers) {
        for (int i = 0; i < count; i++) {
            x.tell(i < numbers.length ? numbers[i] : 0);
        }
        int answer = x.enough();
        due("32: none waits then", x.told(5), 0);
        return answer;
    }

    private static void enoughOfTwelve() {
        ScreeCourt x = twelve();
        due("32: eleven", enoughOf(x, 11), Findings.SIZE);
        due("32: twelve", enoughOf(x, 12), 1);
        due("32: thirteen", enoughOf(x, 13), Findings.SIZE);
        due("32: none", enoughOf(x, 0), Findings.SIZE);
        due("32: two hundred", enoughOf(x, 200), Findings.SIZE);
        int[] counts = new int[12];
        for (int v : new int[] {0, MILLION}) {
            counts[11] = v;
            due("32: " + v, enoughOf(x, 12, counts), 1);
        }
        for (int v : new int[] {-1, MILLION + 1, MIN, MAX}) {
            counts[11] = v;
            due("32: " + v, enoughOf(x, 12, counts), Findings.DEBT);
        }
        counts[11] = 0;
        counts[0] = -1;
        due("32: -1 at the first", enoughOf(x, 12, counts), Findings.DEBT);
    }

    /** Numbers that are gone are not looked at any more. */
    private static void numbersOfBefore() {
        ScreeCourt x = Findings.pair();
        due("32: one too many", enoughOf(x, 3, 0, 0, -1), Findings.SIZE);
        due("32: without that one", enoughOf(x, 2, 0, 0), 1);
        x.lay(0, 3);
        due("33: a right one behind one that is not", checkOf(x, 9, 9, 0, 3), 1);
        due("33: cut", checkOf(x, 0), 1);
        due("33: a right one", checkOf(x, 0, 3), 0);
        Findings.tellAll(x, 1, 0);
        due("12: an order", x.manner(2, 0), 0);
        x.tell(0);
        due("12: the half of one", x.manner(2, 0), Findings.BEYOND);
        due("32: SIZE", x.enough(), Findings.SIZE);
    }

    private static void enoughAtTheLoad() {
        for (int p = 0; p < 12; p++) {
            ScreeCourt x = twelve();
            x.lay(p, 8);
            due("32: one below the load at " + p, enoughOf(x, 12), 1);
            x.lay(p, 1);
            due("32: at the load at " + p, enoughOf(x, 12), 0);
            int[] counts = new int[12];
            counts[p] = 1;
            due("32: and one slide", enoughOf(x, 12, counts), 1);
            x.lay(p, 9);
            due("32: two loads, one slide (of a RIM, too)", enoughOf(x, 12, counts), 0);
            due("32: nothing slid", x.grains(p), 18);
        }
    }

    /** A million slides of such loads are more grains than an int can tell, up and down. */
    private static void enoughBeyondInt() {
        ScreeCourt x = new ScreeCourt();
        x.place(Findings.RIM);
        x.place(Findings.RIM);
        for (int i = 0; i < 240; i++) {
            x.way(0, i < 239 ? -1 : 1, 9);
        }
        x.way(1, -1, 9);
        x.begin();
        due("32: 2160000000 go", enoughOf(x, 2, MILLION, MILLION), 1);
        ScreeCourt y = new ScreeCourt();
        y.place(Findings.RIM);
        y.place(Findings.RIM);
        for (int i = 0; i < 240; i++) {
            y.way(0, 1, 9);
        }
        y.way(1, -1, 9);
        y.begin();
        due("32: 2160000000 come", enoughOf(y, 2, MILLION, 0), 0);
        due("32: 2160000000 come, 9000000 go", enoughOf(y, 2, MILLION, MILLION), 0);
    }

    private static int checkOf(ScreeCourt x, int... numbers) {
        Findings.tellAll(x, numbers);
        int answer = x.check();
        due("33: none waits then", x.told(5), 0);
        return answer;
    }

    private static void checkOfNone() {
        ScreeCourt x = Findings.pair();
        due("33: none, and it stands", checkOf(x), 0);
        x.lay(1, 2);
        due("33: below the load", checkOf(x, 1, 2), 1);
        x.lay(1, 1);
        due("33: none, and it does not stand", checkOf(x), 1000);
        due("33: at the load", checkOf(x, 1, 3), 0);
        due("33: a place that is not due", checkOf(x, 0, 0), 1);
        due("33: no such place", checkOf(x, 2, 3), 1);
        due("33: no such place", checkOf(x, -1, 3), 1);
        due("33: no such place", checkOf(x, MIN, 3), 1);
        due("33: no such place", checkOf(x, MAX, 3), 1);
        due("33: one grain less", checkOf(x, 1, 2), 1);
        due("33: one grain more", checkOf(x, 1, 4), 1);
        due("33: MIN grains", checkOf(x, 1, MIN), 1);
        due("33: MAX grains", checkOf(x, 1, MAX), 1);
        due("33: cut", checkOf(x, 1), 1);
        due("33: cut behind a right one", checkOf(x, 1, 3, 0), 2);
        due("33: the first wrong one is told", checkOf(x, 1, 3, 0, 2, 9, 9), 2);
        due("35: none of these is a finding", x.told(8), 0);
    }

    /** LEDGE 0 with so many grains, and as many numbers of its slides, one by one, wait. */
    private static ScreeCourt dripTold(int grains, int numbers) {
        ScreeCourt x = Findings.drip();
        x.lay(0, grains);
        for (int i = 0; i < numbers; i++) {
            x.tell(i % 2 == 0 ? 0 : grains - i / 2);
        }
        return x;
    }

    private static void checkOfHundredPairs() {
        due("33: a hundred right ones, and 1 is due", dripTold(100, 200).check(), 1000);
        due("33: the hundredth is cut", dripTold(100, 199).check(), 100);
        due("33: the hundredth is wrong", checkOf(dripTold(100, 198), 0, 2), 100);
        due("33: the hundredth is of 1", checkOf(dripTold(100, 198), 1, 99), 1000);
        due("33: a hundred, and it stands", checkOf(dripTold(99, 198), 1, 99), 0);
        due("33: the hundredth is cut there", checkOf(dripTold(99, 198), 1), 100);
    }

    private static void checkToTheLimit() {
        ScreeCourt x = Findings.pour();
        x.lay(0, 5);
        x.lay(1, 999995);
        // 5 grains at once bring 1 to 1000000, of which 1 is left then
        due("33: to the limit", checkOf(x, 0, 5, 1, MILLION), 0);
        x.lay(1, 1);
        due("33: beyond it", checkOf(x, 0, 5), Findings.FULL);
        due("33: beyond it, cut behind it", checkOf(x, 0, 5, 1), Findings.FULL);
        due("33: a wrong one first", checkOf(x, 0, 4), 1);
        due("33: a cut one first", checkOf(x, 0), 1);
        // 6 are left, and 5 come to them: that is due again
        due("33: in the other order", checkOf(x, 1, 999996, 0, 5), 1000);
        due("33: and on", checkOf(x, 1, 999996, 0, 5, 1, 11), 0);
        due("35: FULL is counted", x.told(8), 2);
        due("9: nothing slid", x.grains(0), 5);
        due("34: what can be undone stays", x.undo(), 2);
    }

    /** enough() and check() take the numbers and nothing else, also when they answer no finding. */
    private static void checkLeaves() {
        for (int manner = 0; manner < 5; manner++) {
            int m = manner;
            ScreeCourt x = States.rich(m);
            int place = 0;
            while (place < 3 && x.grains(place) < (place == 0 ? 5 : 2)) {
                place++;
            }
            int p = place;
            int g = (int) x.grains(p);
            Supplier<ScreeCourt> without = () -> States.rich(m);
            due("33: a right one", checkOf(States.rich(m), p, g), 1000);
            Readings.same(ANSWERS, "33: a right one", without, behind(() -> States.rich(m, p, g), y -> y.check()));
            Readings.same(ANSWERS, "33: a wrong one", without, behind(() -> States.rich(m, 9, 9, 9), y -> y.check()));
            Readings.same(ANSWERS, "32: 0", without, behind(() -> States.rich(m, 0, 0, 0, 0), y -> y.enough()));
            Readings.same(ANSWERS, "32: 1", without, behind(() -> States.rich(m, 99, 99, 99, 99), y -> y.enough()));
        }
    }

    private static Supplier<ScreeCourt> behind(Supplier<ScreeCourt> state, ToLongFunction<ScreeCourt> act) {
        return () -> {
            ScreeCourt x = state.get();
            act.applyAsLong(x);
            return x;
        };
    }

    private static void undone(String which, Supplier<ScreeCourt> state, int left, ToLongFunction<ScreeCourt> act) {
        due("34: " + which, behind(state, act).get().undo(), left);
        Readings.same(ANSWERS, "34: " + which, state, behind(behind(state, act), x -> x.undo()));
    }

    private static void undoIsAsBefore() {
        for (int manner = 0; manner < 5; manner++) {
            int m = manner;
            Supplier<ScreeCourt> rich = () -> States.rich(m, 1, 2);
            undone("lay()", rich, 6, x -> x.lay(1, 50));
            undone("lay() of none", rich, 6, x -> x.lay(1, 0));
            undone("lay() below 0", rich, 6, x -> x.lay(1, -1));
            undone("slide()", rich, 6, x -> x.slide(1));
            undone("run() that is SPENT", rich, 6, x -> x.run(1));
            undone("run()", rich, 6, x -> x.run(5000));
            undone("spread()", rich, 6, x -> x.spread(0, 2, 1, 3));
            undone("spread() of none", rich, 6, x -> x.spread(0, 0, 0, 0));
            Supplier<ScreeCourt> pressed = () -> States.pressed(m, 1, 2);
            undone("run() that may be FULL", pressed, 2, x -> x.run(5));
            undone("run() to the end, in a manner", rich, 6, x -> x.run(7));
        }
        undone("run() that did nothing", () -> States.rested(true), 7, x -> x.run(1));
    }

    private static void undoOfTwenty() {
        for (int acts = 18; acts <= 23; acts++) {
            ScreeCourt x = Findings.pair();
            for (int i = 0; i < acts; i++) {
                x.lay(1, 1);
            }
            int kept = Math.min(acts, 20);
            for (int left = kept - 1; left >= 0; left--) {
                due("34: of " + acts, x.undo(), left);
                due("9: grains", x.grains(1), acts - kept + left);
            }
            due("34: no more of " + acts, x.undo(), Findings.NONE);
            due("9: grains stay", x.grains(1), acts - kept);
            x.lay(1, 5);
            due("34: a new one", x.undo(), 0);
        }
        ScreeCourt x = Findings.pair();
        for (int i = 0; i < 60; i++) {
            x.lay(0, 1);
            if (i % 3 == 2) {
                x.undo();
            }
        }
        due("34: sixty acts, every third undone, the last as well", x.undo(), 18);
        due("9: grains", x.grains(0), 39);
    }

    private static void undoOfNothing() {
        due("34: a new object", new ScreeCourt().undo(), Findings.NONE);
        due("34: just begun", Findings.pair().undo(), Findings.NONE);
        due("34: not begun", States.unbegun().undo(), Findings.NONE);
        ScreeCourt x = Findings.pair();
        x.lay(0, 9);
        x.anew();
        due("34: anew", x.undo(), Findings.NONE);
        x.place(Findings.RIM);
        x.way(0, -1, 1);
        x.begin();
        due("34: begun anew", x.undo(), Findings.NONE);
        due("9: grains", x.grains(0), 0);
        x.run(1);
        due("34: a run() that did nothing", x.undo(), 0);
    }

    private static void undoBehindOthers() {
        List<ToLongFunction<ScreeCourt>> ends = List.of(x -> x.bring(0), x -> x.manner(1, 0), x -> x.manner(2, 0),
                x -> x.manner(3, 0), x -> x.manner(4, 0), x -> x.reset());
        for (int i = 0; i < ends.size(); i++) {
            ScreeCourt x = States.rich(1, 3, 1, 0, 2);
            due("34: act " + i + " was done", ends.get(i).applyAsLong(x) >= 0 ? 1 : 0, 1);
            due("34: nothing behind act " + i, x.undo(), Findings.NONE);
            x.lay(0, 1);
            due("34: but what comes then", x.undo(), 0);
        }
        ScreeCourt x = States.rich(1, 3, 1, 0, 2);
        due("34: undo", x.undo(), 5);
        x.tell(1);
        x.burn();
        x.list();
        x.keep(7);
        x.plus(0, 0, 6);
        x.nought(5);
        x.contrary(0, 4);
        x.many(2);
        x.terrace(0, 8, 1);
        x.put(0, 0, 1);
        x.copy(0, 0, 0, 0, 1);
        x.check();
        x.enough();
        due("34: all others leave what can be undone", x.undo(), 4);
    }

    private static void tolds() {
        ScreeCourt x = new ScreeCourt();
        for (int what : new int[] {-1, 9, MIN, MAX}) {
            due("35: told(" + what + ")", x.told(what), Findings.BEYOND);
        }
        due("35: these are four", x.told(8), 4);
        due("35: told(8) is no finding itself", x.told(8), 4);
        due("35: not begun, it does not stand", x.told(3), 0);
        ScreeCourt unbegun = States.unbegun(7, 7);
        int[] want = {4, 3, 0, 0, 0, 2, 1, 0, 1};
        for (int what = 0; what <= 8; what++) {
            due("35: not begun, told(" + what + ")", unbegun.told(what), want[what]);
        }
        ScreeCourt rested = States.rested(true);
        due("35: the LOST of before begin()", rested.told(0), 15);
        due("35: places", rested.told(1), 4);
        due("35: begun", rested.told(2), 1);
        due("35: stands", rested.told(3), 1);
        due("35: rows", rested.told(7), 12);
        rested.lay(1, 99);
        due("35: does not stand", rested.told(3), 0);
        long sum = 0;
        for (int p = 0; p < 4; p++) {
            sum += rested.grains(p);
        }
        due("35: grains, without the ditches", rested.told(4), sum);
        due("35: something is in a ditch", rested.grains(-1) > 0 ? 1 : 0, 1);
        rested.anew();
        due("35: LOST anew", rested.told(0), 0);
    }

    /** The 512th call of an object is still answered. */
    private static void findingsOfAllCalls() {
        ScreeCourt x = new ScreeCourt();
        for (int i = 0; i < 511; i++) {
            x.put(0, 0, i);
        }
        due("35: 511 findings", x.told(8), 511);
        ScreeCourt y = new ScreeCourt();
        y.place(Findings.RIM);
        for (int i = 0; i < 510; i++) {
            y.way(0, -1, 9);
        }
        due("3: the load by then", y.way(0, -2, 9), 511 * 9);
    }
}
