import java.util.function.Supplier;
import java.util.function.ToLongFunction;

/** An act that answers a finding changes nothing (but where told), and is counted once. */
public final class RefusedTest {
    private static final Answers ANSWERS = new Answers("RefusedTest");
    private static final int MAX = Integer.MAX_VALUE;
    private static final int MIN = Integer.MIN_VALUE;

    private Supplier<ScreeCourt> state;
    private String name;

    public static void main(String[] args) {
        readingsSeeChanges();
        new RefusedTest("a new object", ScreeCourt::new).onNew();
        new RefusedTest("unbegun", () -> States.unbegun(2, 0, 1)).onUnbegun();
        new RefusedTest("twelve places", States::twelvePlaces).onTwelve();
        for (int manner = 0; manner < 5; manner++) {
            int m = manner;
            new RefusedTest("manner " + m, () -> States.rich(m, 3, 1, 0, 0)).onRich();
            new RefusedTest("one-way, manner " + m, () -> States.oneWay(m, 3, 1, 0)).onOneWay();
            new RefusedTest("pressed, manner " + m, () -> States.pressed(m, 1, 1000000, 0, 1)).onPressed();
        }
        new RefusedTest("rested", () -> States.rested(true)).onRested();
        new RefusedTest("rested, one-way", () -> States.rested(false)).onRestedOneWay();
        new RefusedTest("a long past", States::longPast).onLongPast();
        new RefusedTest("200 numbers", RefusedTest::withAllNumbers).onAllNumbers();
        new RefusedTest("a slow line", RefusedTest::slowLine).onSlowLine();
        new RefusedTest("201 rows", () -> Findings.line(67, 3)).refused("list()", Findings.MANY, x -> x.list());
        lostChangesToldAlone();
        numbersAreGone();
        spentRuns();
        ANSWERS.end();
    }

    private RefusedTest(String name, Supplier<ScreeCourt> state) {
        this.name = name;
        this.state = state;
    }

    private static void due(String call, long got, long want) {
        ANSWERS.due(call, got, want);
    }

    private static Supplier<ScreeCourt> behind(Supplier<ScreeCourt> state, ToLongFunction<ScreeCourt> act) {
        return () -> {
            ScreeCourt x = state.get();
            act.applyAsLong(x);
            return x;
        };
    }

    private static void counted(String which, Supplier<ScreeCourt> state, long answer, ToLongFunction<ScreeCourt> act) {
        ScreeCourt x = state.get();
        int before = x.told(8);
        due(which, act.applyAsLong(x), answer);
        due(which + " is counted once", x.told(8), before + 1);
    }

    private void refused(String call, long answer, ToLongFunction<ScreeCourt> act) {
        String which = name + ": " + call;
        counted(which, state, answer, act);
        Readings.same(ANSWERS, which, state, behind(state, act));
    }

    private static void seen(String call, Supplier<ScreeCourt> state, ToLongFunction<ScreeCourt> act) {
        due("a change by " + call + " can be read", Readings.differ(state, behind(state, act)) ? 1 : 0, 1);
    }

    /** Were this not so, nothing would follow from readings that are the same. */
    private static void readingsSeeChanges() {
        Supplier<ScreeCourt> unbegun = () -> States.unbegun(2, 0, 1);
        seen("place()", unbegun, x -> x.place(0));
        seen("way()", unbegun, x -> x.way(2, 0, 1));
        seen("begin()", () -> {
            ScreeCourt x = States.unbegun();
            x.way(2, 0, 1);
            return x;
        }, x -> x.begin());
        Supplier<ScreeCourt> rich = () -> States.rich(4, 3, 1, 0, 2);
        seen("anew()", rich, x -> x.anew());
        seen("lay()", rich, x -> x.lay(0, 1));
        seen("lay() of nothing", rich, x -> x.lay(0, 0));
        seen("slide()", rich, x -> x.slide(2));
        seen("run()", rich, x -> x.run(1));
        seen("reset()", rich, x -> x.reset());
        seen("manner() by what can be undone", rich, x -> x.manner(4, 0));
        seen("manner() by the seed", () -> States.rich(3), x -> x.manner(3, 4711));
        seen("burn()", () -> States.rested(true), x -> x.burn());
        seen("list()", () -> Findings.line(3, 3), x -> x.list());
        seen("keep()", rich, x -> x.keep(0));
        seen("bring()", rich, x -> x.bring(0));
        seen("plus()", rich, x -> x.plus(0, 0, 7));
        seen("nought()", rich, x -> x.nought(0));
        seen("contrary()", rich, x -> x.contrary(0, 7));
        seen("terrace()", rich, x -> x.terrace(2, 8, 3));
        seen("put()", rich, x -> x.put(2, 1, 1));
        seen("copy()", rich, x -> x.copy(0, 0, 2, 0, 1));
        seen("spread()", rich, x -> x.spread(0, 0, 1, 0));
        seen("tell()", rich, x -> x.tell(1));
        seen("enough()", rich, x -> x.enough());
        seen("check()", rich, x -> x.check());
        seen("undo()", rich, x -> x.undo());
    }

    private void onNew() {
        refused("place(-1)", Findings.BEYOND, x -> x.place(-1));
        refused("place(5)", Findings.BEYOND, x -> x.place(5));
        refused("way(0, 1, 1)", Findings.BEYOND, x -> x.way(0, 1, 1));
        refused("begin()", Findings.NONE, x -> x.begin());
        refused("as(0, 0)", Findings.BEYOND, x -> x.as(0, 0));
        refused("weight(0, -1)", Findings.BEYOND, x -> x.weight(0, -1));
        refused("lay(0, 1)", Findings.BEYOND, x -> x.lay(0, 1));
        refused("grains(0)", Findings.BEYOND, x -> x.grains(0));
        refused("slide(0)", Findings.BEYOND, x -> x.slide(0));
        refused("odometer(0)", Findings.BEYOND, x -> x.odometer(0));
        refused("bring(0)", Findings.NONE, x -> x.bring(0));
        refused("plus(0, 1, 2)", Findings.NONE, x -> x.plus(0, 1, 2));
        refused("contrary(0, 1)", Findings.NONE, x -> x.contrary(0, 1));
        refused("listed(0, 0)", Findings.NONE, x -> x.listed(0, 0));
        refused("burnt(0)", Findings.NONE, x -> x.burnt(0));
        refused("put(0, 0, 1)", Long.MIN_VALUE, x -> x.put(0, 0, 1));
        refused("copy()", Findings.MISSING, x -> x.copy(0, 0, 1, 0, 0));
        refused("spread()", Findings.MISSING, x -> x.spread(0, 0, 0, 0));
        refused("enough()", Findings.IDLE, x -> x.enough());
        refused("check()", Findings.IDLE, x -> x.check());
        refused("undo()", Findings.NONE, x -> x.undo());
        onIdle();
    }

    private void onIdle() {
        refused("manner(0, 0)", Findings.IDLE, x -> x.manner(0, 0));
        refused("manner(3, 9)", Findings.IDLE, x -> x.manner(3, 9));
        refused("manner(4, 0)", Findings.IDLE, x -> x.manner(4, 0));
        refused("run(1)", Findings.IDLE, x -> x.run(1));
        refused("run(0)", Findings.BEYOND, x -> x.run(0));
        refused("twoWay()", Findings.IDLE, x -> x.twoWay());
        refused("burn()", Findings.IDLE, x -> x.burn());
        refused("keep(0)", Findings.IDLE, x -> x.keep(0));
        refused("nought(0)", Findings.IDLE, x -> x.nought(0));
        refused("many(7)", Findings.IDLE, x -> x.many(7));
        refused("list()", Findings.IDLE, x -> x.list());
        refused("told(9)", Findings.BEYOND, x -> x.told(9));
    }

    private void onUnbegun() {
        refused("place(5)", Findings.BEYOND, x -> x.place(5));
        refused("way(3, 0, 1)", Findings.BEYOND, x -> x.way(3, 0, 1));
        refused("way(0, 3, 1)", Findings.BEYOND, x -> x.way(0, 3, 1));
        refused("way(1, -4, 1)", Findings.BEYOND, x -> x.way(1, -4, 1));
        refused("way(1, 1, 1)", Findings.BEYOND, x -> x.way(1, 1, 1));
        refused("way(1, 0, 0)", Findings.BEYOND, x -> x.way(1, 0, 0));
        refused("way(1, 0, 10)", Findings.BEYOND, x -> x.way(1, 0, 10));
        refused("way(0, 1, 2)", Findings.KIND, x -> x.way(0, 1, 2));
        refused("way(2, -1, 1)", Findings.KIND, x -> x.way(2, -1, 1));
        refused("as(2, 1)", Findings.KIND, x -> x.as(2, 1));
        refused("as(3, 0)", Findings.BEYOND, x -> x.as(3, 0));
        refused("weight(0, 3)", Findings.BEYOND, x -> x.weight(0, 3));
        refused("lay(1, 1)", Findings.IDLE, x -> x.lay(1, 1));
        refused("slide(1)", Findings.IDLE, x -> x.slide(1));
        refused("manner(2, 0)", Findings.IDLE, x -> x.manner(2, 0));
        refused("bring(0)", Findings.NONE, x -> x.bring(0));
        refused("plus(0, 0, 1)", Findings.NONE, x -> x.plus(0, 0, 1));
        refused("contrary(0, 1)", Findings.NONE, x -> x.contrary(0, 1));
        refused("spread(0, 0, 1, 1)", Findings.IDLE, x -> x.spread(0, 0, 1, 1));
        refused("spread(0, 0, 0, 0)", Findings.IDLE, x -> x.spread(0, 0, 0, 0));
        refused("undo()", Findings.NONE, x -> x.undo());
        onIdle();
        onTerraces();
    }

    private void onTwelve() {
        refused("place(0)", Findings.FULL, x -> x.place(0));
        refused("place(4)", Findings.FULL, x -> x.place(4));
        refused("way(0, 12, 1)", Findings.BEYOND, x -> x.way(0, 12, 1));
    }

    private void onBegun() {
        refused("place(0)", Findings.BEGUN, x -> x.place(0));
        refused("way(0, 1, 1)", Findings.BEGUN, x -> x.way(0, 1, 1));
        refused("begin()", Findings.BEGUN, x -> x.begin());
        refused("run(0)", Findings.BEYOND, x -> x.run(0));
        refused("run(5001)", Findings.BEYOND, x -> x.run(5001));
        refused("manner(-1, 0)", Findings.BEYOND, x -> x.manner(-1, 0));
        refused("manner(5, 0)", Findings.BEYOND, x -> x.manner(5, 0));
        refused("manner(3, -1)", Findings.BEYOND, x -> x.manner(3, -1));
        refused("manner(3, MIN)", Findings.BEYOND, x -> x.manner(3, MIN));
        refused("manner(2, 0)", Findings.BEYOND, x -> x.manner(2, 0));
        refused("keep(-1)", Findings.BEYOND, x -> x.keep(-1));
        refused("keep(8)", Findings.BEYOND, x -> x.keep(8));
        refused("bring(-1)", Findings.BEYOND, x -> x.bring(-1));
        refused("bring(8)", Findings.BEYOND, x -> x.bring(8));
        refused("bring(6)", Findings.NONE, x -> x.bring(6));
        refused("plus(0, 0, 8)", Findings.BEYOND, x -> x.plus(0, 0, 8));
        refused("plus(0, 6, 1)", Findings.NONE, x -> x.plus(0, 6, 1));
        refused("plus(6, 0, 0)", Findings.NONE, x -> x.plus(6, 0, 0));
        refused("nought(8)", Findings.BEYOND, x -> x.nought(8));
        refused("contrary(0, 8)", Findings.BEYOND, x -> x.contrary(0, 8));
        refused("contrary(6, 0)", Findings.NONE, x -> x.contrary(6, 0));
        refused("many(1)", Findings.BEYOND, x -> x.many(1));
        refused("many(30012)", Findings.BEYOND, x -> x.many(30012));
        refused("burnt(-2)", Findings.NONE, x -> x.burnt(-2));
        refused("burnt(12)", Findings.NONE, x -> x.burnt(12));
        refused("listed(-1, 0)", Findings.NONE, x -> x.listed(-1, 0));
        refused("told(-1)", Findings.BEYOND, x -> x.told(-1));
        refused("told(9)", Findings.BEYOND, x -> x.told(9));
    }

    private void onRich() {
        onBegun();
        onTerraces();
        refused("as(4, 0)", Findings.BEYOND, x -> x.as(4, 0));
        refused("as(0, 5)", Findings.BEYOND, x -> x.as(0, 5));
        refused("as(1, 1)", Findings.KIND, x -> x.as(1, 1));
        refused("weight(4, 0)", Findings.BEYOND, x -> x.weight(4, 0));
        refused("weight(0, -4)", Findings.BEYOND, x -> x.weight(0, -4));
        refused("lay(4, 1)", Findings.BEYOND, x -> x.lay(4, 1));
        refused("lay(0, -1000)", Findings.DEBT, x -> x.lay(0, -1000));
        refused("lay(2, 1000001)", Findings.FULL, x -> x.lay(2, 1000001));
        refused("lay(2, MAX)", Findings.FULL, x -> x.lay(2, MAX));
        refused("lay(2, MIN)", Findings.DEBT, x -> x.lay(2, MIN));
        refused("grains(4)", Findings.BEYOND, x -> x.grains(4));
        refused("grains(-4)", Findings.BEYOND, x -> x.grains(-4));
        refused("odometer(4)", Findings.BEYOND, x -> x.odometer(4));
        refused("slide(4)", Findings.BEYOND, x -> x.slide(4));
        refused("burn()", Findings.IDLE, x -> x.burn());
        refused("burnt(2)", Findings.NONE, x -> x.burnt(2));
        refused("listed(12, 0)", Findings.NONE, x -> x.listed(12, 0));
        refused("listed(11, 4)", Findings.BEYOND, x -> x.listed(11, 4));
        refused("spread(0, 0, 2, 3)", Findings.BEYOND, x -> x.spread(0, 0, 2, 3));
        refused("spread(0, 0, 3, 0)", Findings.DEBT, x -> x.spread(0, 0, 3, 0));
        refused("spread(1, 0, 2, 0)", Findings.FULL, x -> x.spread(1, 0, 2, 0));
    }

    private void onTerraces() {
        refused("terrace(-1, 8, 1)", Findings.BEYOND, x -> x.terrace(-1, 8, 1));
        refused("terrace(4, 8, 1)", Findings.BEYOND, x -> x.terrace(4, 8, 1));
        refused("terrace(0, 7, 1)", Findings.BEYOND, x -> x.terrace(0, 7, 1));
        refused("terrace(0, 8, -1)", Findings.SIZE, x -> x.terrace(0, 8, -1));
        refused("terrace(0, 16, 17)", Findings.BEYOND, x -> x.terrace(0, 16, 17));
        refused("terrace(0, 0, -1)", Findings.SIZE, x -> x.terrace(0, 0, -1));
        refused("terrace(0, 0, 17)", Findings.BEYOND, x -> x.terrace(0, 0, 17));
        refused("put(-1, 0, 9)", Long.MIN_VALUE, x -> x.put(-1, 0, 9));
        refused("put(4, 0, 9)", Long.MIN_VALUE, x -> x.put(4, 0, 9));
        refused("put(3, 0, 9)", Long.MIN_VALUE, x -> x.put(3, 0, 9));
        refused("put(0, -1, 9)", Long.MIN_VALUE, x -> x.put(0, -1, 9));
        refused("put(0, 3, 9)", Long.MIN_VALUE, x -> x.put(0, 3, 9));
        refused("copy(0, 0, 4, 0, 1)", Findings.BEYOND, x -> x.copy(0, 0, 4, 0, 1));
        refused("copy(0, 0, 3, 0, 1)", Findings.MISSING, x -> x.copy(0, 0, 3, 0, 1));
        refused("copy(0, 0, 1, 0, 1)", Findings.KIND, x -> x.copy(0, 0, 1, 0, 1));
        refused("copy(0, 1, 2, 0, 3)", Findings.BEYOND, x -> x.copy(0, 1, 2, 0, 3));
        refused("copy(0, 0, 2, 0, 3)", Findings.BEYOND, x -> x.copy(0, 0, 2, 0, 3));
        refused("copy(0, 2, 2, 0, 2)", Findings.BEYOND, x -> x.copy(0, 2, 2, 0, 2));
        refused("copy(0, 0, 2, -1, 1)", Findings.BEYOND, x -> x.copy(0, 0, 2, -1, 1));
        refused("copy(0, 0, 2, 0, -1)", Findings.BEYOND, x -> x.copy(0, 0, 2, 0, -1));
        refused("spread(4, 0, 1, 0)", Findings.BEYOND, x -> x.spread(4, 0, 1, 0));
        refused("spread(3, 0, 1, 0)", Findings.MISSING, x -> x.spread(3, 0, 1, 0));
        refused("spread(0, -1, 1, 0)", Findings.BEYOND, x -> x.spread(0, -1, 1, 0));
        refused("spread(0, 0, -1, 0)", Findings.BEYOND, x -> x.spread(0, 0, -1, 0));
        refused("spread(0, 3, 1, 0)", Findings.BEYOND, x -> x.spread(0, 3, 1, 0));
        refused("spread(0, 0, 1, -1)", Findings.BEYOND, x -> x.spread(0, 0, 1, -1));
    }

    private void onOneWay() {
        onBegun();
        refused("burn()", Findings.IDLE, x -> x.burn());
        refused("nought(0)", Findings.ONE_WAY, x -> x.nought(0));
        refused("nought(1)", Findings.ONE_WAY, x -> x.nought(1));
        refused("contrary(0, 5)", Findings.ONE_WAY, x -> x.contrary(0, 5));
        refused("contrary(0, 1)", Findings.ONE_WAY, x -> x.contrary(0, 1));
        refused("many(7)", Findings.ONE_WAY, x -> x.many(7));
        refused("list()", Findings.ONE_WAY, x -> x.list());
        refused("listed(0, 0)", Findings.NONE, x -> x.listed(0, 0));
        refused("burnt(0)", Findings.NONE, x -> x.burnt(0));
    }

    private void onPressed() {
        onBegun();
        refused("lay(1, 1)", Findings.FULL, x -> x.lay(1, 1));
        refused("lay(1, MAX)", Findings.FULL, x -> x.lay(1, MAX));
        refused("lay(0, -2)", Findings.DEBT, x -> x.lay(0, -2));
        refused("slide(0)", Findings.FULL, x -> x.slide(0));
        refused("slide(2)", Findings.BEYOND, x -> x.slide(2));
        refused("spread(1, 1, 1, 1)", Findings.FULL, x -> x.spread(1, 1, 1, 1));
        refused("spread(1, 0, 2, 0)", Findings.FULL, x -> x.spread(1, 0, 2, 0));
        refused("spread(0, 0, 2, 0)", Findings.DEBT, x -> x.spread(0, 0, 2, 0));
        refused("plus(0, 0, 1)", Findings.FULL, x -> x.plus(0, 0, 1));
        refused("plus(0, 1, 1)", Findings.FULL, x -> x.plus(0, 1, 1));
        refused("plus(0, 1, 7)", Findings.FULL, x -> x.plus(0, 1, 7));
    }

    private void onRested() {
        onBegun();
        for (int place = 0; place < 4; place++) {
            int p = place;
            refused("slide(" + p + ")", Findings.IDLE, x -> x.slide(p));
        }
    }

    private void onRestedOneWay() {
        onBegun();
        refused("burn()", Findings.ONE_WAY, x -> x.burn());
    }

    private void onLongPast() {
        refused("lay(0, -1000)", Findings.DEBT, x -> x.lay(0, -1000));
        refused("lay(0, 1000000)", Findings.FULL, x -> x.lay(0, 1000000));
        refused("lay(2, 1)", Findings.BEYOND, x -> x.lay(2, 1));
        refused("slide(2)", Findings.BEYOND, x -> x.slide(2));
        refused("run(5001)", Findings.BEYOND, x -> x.run(5001));
        refused("spread(0, 0, 2, 0)", Findings.DEBT, x -> x.spread(0, 0, 2, 0));
        refused("spread(1, 0, 1, 0)", Findings.FULL, x -> x.spread(1, 0, 1, 0));
        refused("manner(5, 0)", Findings.BEYOND, x -> x.manner(5, 0));
        refused("bring(0)", Findings.NONE, x -> x.bring(0));
    }

    private static ScreeCourt withAllNumbers() {
        ScreeCourt x = Findings.drip();
        x.lay(0, 99);
        for (int g = 99; g > 0; g--) {
            Findings.tellAll(x, 0, g);
        }
        Findings.tellAll(x, 1, 99);
        return x;
    }

    private void onAllNumbers() {
        refused("tell(1)", Findings.FULL, x -> x.tell(1));
        refused("tell(MIN)", Findings.FULL, x -> x.tell(MIN));
        refused("manner(2, 0)", Findings.BEYOND, x -> x.manner(2, 0));
        due("33: they are all right still", state.get().check(), 0);
    }

    private static ScreeCourt slowLine() {
        ScreeCourt x = Findings.line(1, 99, 99, 99, 99, 99, 99, 99, 99, 99, 99, 99);
        x.lay(3, 7);
        x.keep(0);
        x.lay(3, 2);
        x.keep(1);
        return x;
    }

    private void onSlowLine() {
        for (int to : new int[] {0, 1, 7}) {
            String which = "a slow line, to " + to;
            counted("nought(), " + which, state, Findings.FULL, x -> x.nought(to));
            counted("contrary(), " + which, state, Findings.FULL, x -> x.contrary(0, to));
            for (ToLongFunction<ScreeCourt> act : java.util.List.<ToLongFunction<ScreeCourt>>of(
                    x -> x.nought(to), x -> x.contrary(0, to))) {
                ScreeCourt x = behind(state, act).get();
                due(which + ": grains stay", x.grains(3), 9);
                due(which + ": slot 0 stays", x.bring(0), 7);
                due(which + ": slot 1 stays", x.bring(1), 9);
                due(which + ": slot 7 stays", x.bring(7), Findings.NONE);
            }
        }
    }

    /** LOST tells its bits; all else is as it was. */
    private static void lostChangesToldAlone() {
        Supplier<ScreeCourt> ahead = () -> {
            ScreeCourt x = States.unbegun(4, 5);
            x.way(2, 0, 1);
            x.place(Findings.CHUTE);
            x.place(Findings.SHELF);
            x.way(3, 4, 2);
            x.way(4, 3, 1);
            return x;
        };
        due("4: the LOST of before", ahead.get().told(0), 4);
        counted("4: LOST", ahead, Findings.LOST, x -> x.begin());
        Supplier<ScreeCourt> lost = behind(ahead, x -> x.begin());
        due("4: bits of the ring of 3 and 4", lost.get().told(0), 8 + 16);
        due("4: not begun", lost.get().told(2), 0);
        Readings.same(ANSWERS, "4: LOST again", lost, behind(lost, x -> x.begin()));
        ScreeCourt x = lost.get();
        due("4: numbers wait on", x.told(5), 2);
        due("4: a place can still come", x.place(0), 5);
        due("4: and a way", x.way(3, 0, 1), 3);
    }

    /** Findings of enough() and check() take the numbers; all else is as it was. */
    private static void numbersAreGone() {
        for (int manner = 0; manner < 5; manner++) {
            int m = manner;
            Supplier<ScreeCourt> without = () -> States.rich(m);
            gone("32: SIZE", Findings.SIZE, () -> States.rich(m, 1, 2, 3), without, x -> x.enough());
            gone("32: SIZE", Findings.SIZE, () -> States.rich(m, 1, 2, 3, 4, 5), without, x -> x.enough());
            gone("32: DEBT", Findings.DEBT, () -> States.rich(m, 1, 2, 3, -1), without, x -> x.enough());
            gone("32: DEBT", Findings.DEBT, () -> States.rich(m, 1000001, 2, 3, 0), without, x -> x.enough());
            gone("33: FULL", Findings.FULL, () -> States.pressed(m, 0, 1, 1, 1), () -> States.pressed(m), x -> x.check());
        }
        gone("32: IDLE", Findings.IDLE, () -> States.unbegun(1, 2, 3), States::unbegun, x -> x.enough());
        gone("33: IDLE", Findings.IDLE, () -> States.unbegun(1, 2, 3), States::unbegun, x -> x.check());
    }

    private static void gone(String which, int finding, Supplier<ScreeCourt> with, Supplier<ScreeCourt> without,
            ToLongFunction<ScreeCourt> act) {
        counted(which, with, finding, act);
        due(which + ": none wait", behind(with, act).get().told(5), 0);
        Readings.same(ANSWERS, which, without, behind(with, act));
    }

    /** SPENT of run(n) is as n times SPENT of run(1), but for how many can be undone. */
    private static void spentRuns() {
        for (int manner = 0; manner < 5; manner++) {
            ScreeCourt x = States.rich(manner);
            ScreeCourt y = States.rich(manner);
            due("13: SPENT", x.run(3), Findings.SPENT);
            for (int i = 0; i < 3; i++) {
                due("13: SPENT", y.run(1), Findings.SPENT);
            }
            for (int p = -3; p < 4; p++) {
                due("13: grains(" + p + ") of manner " + manner, x.grains(p), y.grains(p));
            }
            due("13: seed of manner " + manner, x.told(6), y.told(6));
            due("34: a SPENT run() is one act", x.undo(), 6);
            due("34: three are three", y.undo(), 8);
            due("35: SPENT is counted once", x.told(8), y.told(8) - 2);
        }
    }
}
