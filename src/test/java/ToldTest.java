/** Promises 31 to 35. */
public final class ToldTest {
    private static final Answers ANSWERS = new Answers("ToldTest");

    public static void main(String[] args) {
        tells();
        enoughs();
        enoughFindings();
        checks();
        checkFindings();
        undoes();
        undoBringsBackAll();
        undoOfFindings();
        undoKeepsTwenty();
        undoEndsBehind();
        tolds();
        ANSWERS.end();
    }

    private static void due(String call, long got, long want) {
        ANSWERS.due(call, got, want);
    }

    private static void tells() {
        ScreeCourt x = new ScreeCourt();
        for (int i = 1; i <= 200; i++) {
            due("31: tell", x.tell(Integer.MIN_VALUE + i), i);
        }
        due("31: FULL", x.tell(0), Findings.FULL);
        due("35: told(5)", x.told(5), 200);
        due("33: IDLE", x.check(), Findings.IDLE);
        due("31: none waits", x.tell(0), 1);
    }

    private static int enoughOf(ScreeCourt x, int... counts) {
        Findings.tellAll(x, counts);
        int answer = x.enough();
        due("32: the numbers are gone", x.told(5), 0);
        return answer;
    }

    private static void enoughs() {
        ScreeCourt x = Findings.pair();
        due("32: nothing is enough", enoughOf(x, 0, 0), 1);
        x.lay(0, 7);
        due("32: not enough", enoughOf(x, 0, 0), 0);
        due("32: 0 is left due", enoughOf(x, 1, 0), 0);
        // two slides of 0 leave 1 there and 4 at 1, which one slide brings to 3 and 1
        due("32: 1 is left due", enoughOf(x, 2, 0), 0);
        due("32: 0 is due again", enoughOf(x, 2, 1), 0);
        // three of 0, one of 1: 7 - 9 + 2 = 0 and 6 - 3 = 3
        due("32: 1 at its load", enoughOf(x, 3, 1), 0);
        // three of 0, two of 1: 7 - 9 + 4 = 2 and 6 - 6 = 0
        due("32: enough", enoughOf(x, 3, 2), 1);
        due("32: grains below 0 are not due", enoughOf(x, 5, 4), 1);
        due("32: whether due or not", enoughOf(x, 1000000, 1000000), 1);
        due("32: too much of one", enoughOf(x, 0, 1000000), 0);
        due("32: nothing slid", x.grains(0), 7);
        due("35: none is a finding", x.told(8), 0);
        due("34: nothing more to undo", x.undo(), 0);
    }

    private static void enoughFindings() {
        ScreeCourt x = Findings.pair();
        due("32: SIZE of none", enoughOf(x), Findings.SIZE);
        due("32: SIZE of one", enoughOf(x, 1), Findings.SIZE);
        due("32: SIZE of three", enoughOf(x, 1, 1, 1), Findings.SIZE);
        due("32: SIZE ahead of DEBT", enoughOf(x, -1), Findings.SIZE);
        due("32: DEBT", enoughOf(x, -1, 0), Findings.DEBT);
        due("32: DEBT", enoughOf(x, 0, 1000001), Findings.DEBT);
        due("32: DEBT", enoughOf(x, 0, Integer.MIN_VALUE), Findings.DEBT);
        due("32: IDLE", enoughOf(new ScreeCourt(), 1, 2), Findings.IDLE);
        due("35: told(8)", x.told(8), 7);
    }

    private static int checkOf(ScreeCourt x, int... pairs) {
        Findings.tellAll(x, pairs);
        int answer = x.check();
        due("33: the numbers are gone", x.told(5), 0);
        return answer;
    }

    private static void checks() {
        ScreeCourt x = Findings.pair();
        due("33: none, and it stands", checkOf(x), 0);
        x.lay(0, 7);
        due("33: none, and it does not stand", checkOf(x), 1000);
        // 7 0: 0 slides twice to 1 4; 1 slides to 3 1; 0 slides to 0 3; 1 slides to 2 0
        due("33: one is right", checkOf(x, 0, 7), 1000);
        due("33: all are right", checkOf(x, 0, 7, 1, 4, 0, 3, 1, 3), 0);
        due("33: wrong grains", checkOf(x, 0, 6), 1);
        due("33: a place that is not due", checkOf(x, 1, 0), 1);
        due("33: no such place", checkOf(x, 2, 7), 1);
        due("33: no such place", checkOf(x, -1, 0), 1);
        due("33: no such place", checkOf(x, Integer.MAX_VALUE, 7), 1);
        due("33: wrong at the third", checkOf(x, 0, 7, 1, 4, 0, 4, 1, 3), 3);
        due("33: one too many", checkOf(x, 0, 7, 1, 4, 0, 3, 1, 3, 0, 2), 5);
        due("33: cut", checkOf(x, 0), 1);
        due("33: cut at the second", checkOf(x, 0, 7, 1), 2);
        due("33: cut behind all", checkOf(x, 0, 7, 1, 4, 0, 3, 1, 3, 0), 5);
        due("33: nothing slid", x.grains(0), 7);
        due("33: nothing fell", x.grains(-1), 0);
        due("33: nothing counts", x.odometer(0), 0);
        due("35: none is a finding", x.told(8), 0);
        due("34: nothing more to undo", x.undo(), 0);
        ScreeCourt y = Findings.drip();
        y.lay(0, 99);
        for (int g = 99; g > 0; g--) {
            Findings.tellAll(y, 0, g);
        }
        due("33: a hundred slides", checkOf(y, 1, 99), 0);
        for (int g = 99; g > 0; g--) {
            Findings.tellAll(y, 0, g);
        }
        due("33: the hundredth is wrong", checkOf(y, 1, 98), 100);
    }

    private static void checkFindings() {
        due("33: IDLE", checkOf(new ScreeCourt(), 0, 0), Findings.IDLE);
        ScreeCourt x = Findings.pour();
        x.lay(0, 1);
        x.lay(1, 1000000);
        due("33: FULL", checkOf(x, 0, 1), Findings.FULL);
        due("33: FULL ahead of a wrong one", checkOf(x, 0, 1, 9, 9), Findings.FULL);
        due("33: a wrong one ahead of FULL", checkOf(x, 0, 2, 0, 1), 1);
        due("33: not FULL in this order", checkOf(x, 1, 1000000, 0, 1), 0);
    }

    private static void undoes() {
        ScreeCourt x = Findings.pair();
        due("34: NONE", x.undo(), Findings.NONE);
        x.lay(0, 7);
        x.slide(0);
        x.run(1);
        x.run(9);
        x.run(9);
        due("34: one that did nothing", x.undo(), 4);
        due("9: grains(0)", x.grains(0), 2);
        due("34: a run", x.undo(), 3);
        due("9: grains(0)", x.grains(0), 3);
        due("9: grains(1)", x.grains(1), 1);
        due("34: a run that was SPENT", x.undo(), 2);
        due("9: grains(1)", x.grains(1), 4);
        due("34: a slide", x.undo(), 1);
        due("9: grains(0)", x.grains(0), 7);
        due("34: lay", x.undo(), 0);
        due("9: grains(0)", x.grains(0), 0);
        due("34: NONE", x.undo(), Findings.NONE);
        due("34: not begun", new ScreeCourt().undo(), Findings.NONE);
    }

    private static void undoBringsBackAll() {
        ScreeCourt x = Findings.pair();
        x.manner(3, 5);
        x.lay(0, 7);
        x.run(9);
        due("34: undo", x.undo(), 1);
        due("9: ditch 0", x.grains(-1), 0);
        due("9: ditch 1", x.grains(-2), 0);
        due("14: odometer(0)", x.odometer(0), 0);
        due("14: odometer(1)", x.odometer(1), 0);
        due("35: the seed", x.told(6), 5);
        x.run(9);
        long[] before = {x.grains(-1), x.grains(-2), x.odometer(0), x.odometer(1), x.told(6)};
        x.lay(0, 9);
        x.run(9);
        due("34: undo", x.undo(), 3);
        long[] then = {x.grains(-1), x.grains(-2), x.odometer(0), x.odometer(1), x.told(6)};
        for (int i = 0; i < before.length; i++) {
            due("34: as it was, " + i, then[i], before[i]);
            due("34: which was not nothing", before[i] != 0 ? 1 : 0, 1);
        }
        ScreeCourt y = Findings.fan();
        y.manner(4, 0);
        y.lay(0, 1);
        y.run(1);
        y.lay(0, 1);
        y.lay(2, 1);
        y.run(1);
        due("34: the row 1 2 3 is back", y.undo(), 4);
        y.run(1);
        due("13: 2 is asked ahead of 0", y.grains(2), 0);
        due("13: 0 is left", y.grains(0), 1);
    }

    private static void undoOfFindings() {
        ScreeCourt x = Findings.pour();
        x.lay(0, 1);
        x.lay(1, 1000000);
        x.lay(0, -5);
        x.lay(9, 1);
        x.slide(0);
        x.slide(9);
        x.run(0);
        x.spread(0, 0, 1, 0);
        due("34: findings are not done", x.undo(), 1);
        due("9: grains(1)", x.grains(1), 0);
        x.lay(1, 1000000);
        x.manner(3, 0);
        x.run(5);
        due("35: seed", x.told(6), 12345);
        due("34: FULL of run() is", x.undo(), 0);
        due("35: seed", x.told(6), 0);
    }

    private static void undoKeepsTwenty() {
        ScreeCourt x = Findings.pair();
        for (int i = 0; i < 25; i++) {
            x.lay(0, 1);
        }
        for (int left = 19; left >= 0; left--) {
            due("34: undo", x.undo(), left);
            due("9: grains(0)", x.grains(0), left + 5);
        }
        due("34: NONE", x.undo(), Findings.NONE);
        due("9: grains(0)", x.grains(0), 5);
        x.lay(0, 1);
        due("34: again", x.undo(), 0);
    }

    private static void undoEndsBehind() {
        ScreeCourt x = Findings.pair();
        x.keep(0);
        x.lay(0, 1);
        x.bring(0);
        due("34: behind bring()", x.undo(), Findings.NONE);
        x.lay(0, 1);
        x.manner(0, 0);
        due("34: behind manner()", x.undo(), Findings.NONE);
        x.lay(0, 1);
        x.reset();
        due("34: behind reset()", x.undo(), Findings.NONE);
        x.lay(0, 1);
        x.manner(5, 0);
        x.manner(2, 0);
        x.bring(5);
        x.bring(9);
        x.plus(0, 0, 1);
        x.nought(1);
        x.contrary(0, 1);
        x.list();
        x.burn();
        x.keep(1);
        due("34: others and findings leave it", x.undo(), 0);
    }

    private static void tolds() {
        ScreeCourt x = Findings.pair();
        due("35: places", x.told(1), 2);
        due("35: begun", x.told(2), 1);
        due("35: stands", x.told(3), 1);
        x.lay(0, 1000000);
        x.lay(1, 1000000);
        due("35: does not", x.told(3), 0);
        due("35: grains", x.told(4), 2000000);
        x.tell(1);
        due("35: numbers", x.told(5), 1);
        due("35: seed", x.told(6), 1);
        x.list();
        due("35: rows", x.told(7), 5);
        due("35: findings", x.told(8), 0);
        due("35: BEYOND", x.told(9), Findings.BEYOND);
        due("35: BEYOND", x.told(-1), Findings.BEYOND);
        due("35: BEYOND", x.told(Integer.MIN_VALUE), Findings.BEYOND);
        due("35: these are counted", x.told(8), 3);
        x.run(1);
        due("35: SPENT is counted", x.told(8), 4);
        x.grains(99);
        x.odometer(99);
        due("35: those of long are counted", x.told(8), 6);
    }
}
