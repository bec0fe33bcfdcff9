/** Where more than one finding applies, the one that is asked first is told. */
public final class OrderTest {
    private static final Answers ANSWERS = new Answers("OrderTest");

    public static void main(String[] args) {
        places();
        ways();
        kinds();
        lays();
        slides();
        manners();
        runs();
        burns();
        keepsAndBrings();
        pluses();
        noughts();
        contraries();
        counts();
        lists();
        terraces();
        puts();
        copies();
        spreads();
        spreadsOfNumbers();
        toldNumbers();
        ANSWERS.end();
    }

    private static void due(String call, long got, long want) {
        ANSWERS.due(call, got, want);
    }

    /** A slope that is one-way whether it has begun or not: RIM 0 to LEDGE 1, LEDGE 1 to RIM 0 twice. */
    private static ScreeCourt crooked(boolean begins) {
        ScreeCourt x = new ScreeCourt();
        x.place(Findings.RIM);
        x.place(Findings.LEDGE);
        x.way(0, 1, 1);
        x.way(0, -1, 1);
        x.way(1, 0, 1);
        x.way(1, 0, 1);
        if (begins) {
            x.begin();
        }
        return x;
    }

    private static ScreeCourt twelveBegun() {
        ScreeCourt x = new ScreeCourt();
        for (int p = 0; p < 12; p++) {
            x.place(Findings.RIM);
            x.way(p, -1, 1);
        }
        x.begin();
        return x;
    }

    private static void places() {
        ScreeCourt x = twelveBegun();
        due("2: BEGUN ahead of BEYOND and FULL", x.place(5), Findings.BEGUN);
        due("2: BEGUN ahead of FULL", x.place(0), Findings.BEGUN);
        due("2: BEGUN ahead of BEYOND", crooked(true).place(-1), Findings.BEGUN);
        due("2: BEYOND ahead of FULL", States.twelvePlaces().place(-1), Findings.BEYOND);
        due("2: BEYOND ahead of FULL", States.twelvePlaces().place(5), Findings.BEYOND);
    }

    private static void ways() {
        ScreeCourt x = crooked(true);
        due("3: BEGUN ahead of BEYOND by the place", x.way(2, 0, 1), Findings.BEGUN);
        due("3: BEGUN ahead of BEYOND by the end", x.way(0, -4, 1), Findings.BEGUN);
        due("3: BEGUN ahead of BEYOND by itself", x.way(0, 0, 1), Findings.BEGUN);
        due("3: BEGUN ahead of BEYOND by the weight", x.way(0, 1, 10), Findings.BEGUN);
        due("3: BEGUN ahead of KIND by the weight", x.way(1, 0, 2), Findings.BEGUN);
        due("3: BEGUN ahead of KIND by the ditch", x.way(1, -1, 1), Findings.BEGUN);
        ScreeCourt y = crooked(false);
        due("3: BEYOND by the end ahead of KIND by the weight", y.way(1, 2, 2), Findings.BEYOND);
        due("3: BEYOND by itself ahead of KIND by the weight", y.way(1, 1, 2), Findings.BEYOND);
        due("3: BEYOND by the ditch ahead of KIND by the ditch", y.way(1, -4, 1), Findings.BEYOND);
        due("3: BEYOND by the weight ahead of KIND by the weight", y.way(1, 0, 10), Findings.BEYOND);
        due("3: BEYOND by the weight ahead of KIND by the weight", y.way(1, 0, 0), Findings.BEYOND);
        due("3: BEYOND by the weight ahead of KIND by the ditch", y.way(1, -1, 0), Findings.BEYOND);
    }

    private static void kinds() {
        ScreeCourt x = crooked(false);
        due("6: BEYOND by the kind ahead of KIND", x.as(1, 5), Findings.BEYOND);
        due("6: BEYOND by the kind ahead of KIND", x.as(1, -1), Findings.BEYOND);
        due("6: BEYOND by the place ahead of KIND", x.as(2, 3), Findings.BEYOND);
    }

    private static void lays() {
        ScreeCourt idle = crooked(false);
        due("8: BEYOND ahead of IDLE", idle.lay(2, 1), Findings.BEYOND);
        due("8: BEYOND ahead of IDLE and DEBT", idle.lay(-1, -1), Findings.BEYOND);
        due("8: IDLE ahead of DEBT", idle.lay(0, -1), Findings.IDLE);
        due("8: IDLE ahead of FULL", idle.lay(0, 1000001), Findings.IDLE);
        due("8: IDLE also of nothing", idle.lay(0, 0), Findings.IDLE);
        ScreeCourt x = crooked(true);
        due("8: BEYOND ahead of DEBT", x.lay(2, -1), Findings.BEYOND);
        due("8: BEYOND ahead of FULL", x.lay(2, 1000001), Findings.BEYOND);
    }

    private static void slides() {
        due("11: BEYOND ahead of IDLE", crooked(false).slide(2), Findings.BEYOND);
        due("11: BEYOND ahead of IDLE", crooked(true).slide(-1), Findings.BEYOND);
        ScreeCourt x = Findings.pour();
        x.lay(1, 1000000);
        due("11: IDLE although 1 has no room", x.slide(0), Findings.IDLE);
    }

    private static void manners() {
        ScreeCourt idle = crooked(false);
        due("12: BEYOND by the manner ahead of IDLE", idle.manner(5, 0), Findings.BEYOND);
        due("12: BEYOND by the manner ahead of IDLE", idle.manner(-1, 0), Findings.BEYOND);
        due("12: BEYOND by the seed ahead of IDLE", idle.manner(3, -1), Findings.BEYOND);
        due("12: IDLE whatever the seed of others", idle.manner(1, -1), Findings.IDLE);
        due("12: IDLE ahead of BEYOND by no numbers", idle.manner(2, 0), Findings.IDLE);
        Findings.tellAll(idle, 0, 0);
        due("12: IDLE ahead of BEYOND by wrong numbers", idle.manner(2, 0), Findings.IDLE);
        due("12: which stay", idle.told(5), 2);
    }

    private static void runs() {
        due("13: BEYOND ahead of IDLE", crooked(false).run(0), Findings.BEYOND);
        due("13: BEYOND ahead of IDLE", crooked(false).run(5001), Findings.BEYOND);
        ScreeCourt x = crooked(true);
        x.lay(0, 1000);
        due("13: BEYOND ahead of SPENT", x.run(0), Findings.BEYOND);
        due("13: BEYOND ahead of SPENT", x.run(-5), Findings.BEYOND);
        due("13: BEYOND although it would stand by then", x.run(5001), Findings.BEYOND);
        ScreeCourt pressed = States.pressed(0);
        due("13: BEYOND ahead of FULL", pressed.run(5001), Findings.BEYOND);
        due("13: FULL in the last slide that may be", pressed.run(1), Findings.FULL);
        ScreeCourt fan = Findings.fan();
        fan.lay(0, 2);
        fan.lay(3, 999999);
        due("13: SPENT, FULL would be only the next slide", fan.run(1), Findings.SPENT);
        due("13: and now it is", fan.run(1), Findings.FULL);
    }

    private static void burns() {
        due("17: IDLE (not begun) ahead of ONE_WAY", crooked(false).burn(), Findings.IDLE);
        ScreeCourt x = crooked(true);
        due("17: ONE_WAY", x.burn(), Findings.ONE_WAY);
        x.lay(0, 2);
        due("17: IDLE (does not stand) ahead of ONE_WAY", x.burn(), Findings.IDLE);
        due("16: IDLE whatever its ways", crooked(false).twoWay(), Findings.IDLE);
    }

    private static void keepsAndBrings() {
        due("19: BEYOND ahead of IDLE", crooked(false).keep(8), Findings.BEYOND);
        due("19: BEYOND ahead of IDLE", crooked(false).keep(-1), Findings.BEYOND);
        due("20: BEYOND ahead of NONE and IDLE", crooked(false).bring(8), Findings.BEYOND);
        due("20: BEYOND ahead of NONE and IDLE", crooked(false).bring(-1), Findings.BEYOND);
        due("20: NONE ahead of IDLE", crooked(false).bring(0), Findings.NONE);
    }

    private static void pluses() {
        ScreeCourt idle = crooked(false);
        due("21: BEYOND ahead of NONE and IDLE", idle.plus(8, 0, 0), Findings.BEYOND);
        due("21: BEYOND ahead of NONE and IDLE", idle.plus(0, 8, 0), Findings.BEYOND);
        due("21: BEYOND ahead of NONE and IDLE", idle.plus(0, 0, 8), Findings.BEYOND);
        due("21: NONE ahead of IDLE", idle.plus(0, 0, 0), Findings.NONE);
        ScreeCourt x = States.pressed(0);
        due("21: BEYOND ahead of FULL", x.plus(0, 0, 8), Findings.BEYOND);
        due("21: BEYOND ahead of NONE", x.plus(0, 7, 8), Findings.BEYOND);
        due("21: NONE of the first ahead of FULL", x.plus(7, 0, 0), Findings.NONE);
        due("21: NONE of the second ahead of FULL", x.plus(0, 7, 0), Findings.NONE);
    }

    /** RIM 0 with weights of 99 on and on to RIM 11 takes too many slides; so does this, and is one-way. */
    private static ScreeCourt crookedLine(boolean begins) {
        ScreeCourt x = new ScreeCourt();
        for (int p = 0; p < 12; p++) {
            x.place(Findings.RIM);
        }
        for (int p = 1; p < 12; p++) {
            for (int left = 99; left > 0; left -= 9) {
                x.way(p, p - 1, 9);
                x.way(p - 1, p, 9);
            }
        }
        x.way(0, -1, 1);
        x.way(0, 2, 1);
        if (begins) {
            x.begin();
        }
        return x;
    }

    private static void noughts() {
        due("22: BEYOND ahead of IDLE", crooked(false).nought(8), Findings.BEYOND);
        due("22: BEYOND ahead of IDLE", crooked(false).nought(-1), Findings.BEYOND);
        due("22: BEYOND ahead of ONE_WAY", crooked(true).nought(8), Findings.BEYOND);
        due("22: IDLE ahead of ONE_WAY", crooked(false).nought(0), Findings.IDLE);
        due("22: BEYOND ahead of FULL", Findings.line(1, 99, 99, 99, 99, 99, 99, 99, 99, 99, 99, 99).nought(8),
                Findings.BEYOND);
        due("22: ONE_WAY ahead of FULL", crookedLine(true).nought(0), Findings.ONE_WAY);
        due("22: IDLE ahead of FULL", crookedLine(false).nought(0), Findings.IDLE);
    }

    private static void contraries() {
        due("23: BEYOND ahead of NONE and IDLE", crooked(false).contrary(8, 0), Findings.BEYOND);
        due("23: BEYOND ahead of NONE and IDLE", crooked(false).contrary(0, 8), Findings.BEYOND);
        due("23: BEYOND ahead of NONE", crooked(true).contrary(0, -1), Findings.BEYOND);
        due("23: NONE ahead of IDLE", crooked(false).contrary(0, 0), Findings.NONE);
        due("23: NONE ahead of ONE_WAY", crooked(true).contrary(0, 0), Findings.NONE);
        ScreeCourt x = crookedLine(true);
        due("23: NONE ahead of ONE_WAY and FULL", x.contrary(0, 0), Findings.NONE);
        x.keep(0);
        due("23: ONE_WAY ahead of FULL", x.contrary(0, 0), Findings.ONE_WAY);
        due("23: BEYOND ahead of ONE_WAY and FULL", x.contrary(0, 8), Findings.BEYOND);
        due("23: NONE ahead of FULL", Findings.line(1, 99, 99, 99, 99, 99, 99, 99, 99, 99, 99, 99).contrary(0, 0),
                Findings.NONE);
        ScreeCourt pressed = States.pressed(0);
        due("23: ONE_WAY ahead of FULL by grains", pressed.contrary(0, 0), Findings.ONE_WAY);
    }

    private static void counts() {
        due("24: BEYOND ahead of IDLE", crooked(false).many(4), Findings.BEYOND);
        due("24: BEYOND ahead of ONE_WAY", crooked(true).many(30012), Findings.BEYOND);
        due("24: IDLE ahead of ONE_WAY", crooked(false).many(2), Findings.IDLE);
    }

    private static void lists() {
        due("25: IDLE ahead of ONE_WAY", crooked(false).list(), Findings.IDLE);
        ScreeCourt idle = new ScreeCourt();
        idle.place(Findings.RIM);
        for (int i = 0; i < 30; i++) {
            idle.way(0, -1, 9);
        }
        due("25: IDLE ahead of MANY", idle.list(), Findings.IDLE);
        idle.begin();
        due("25: MANY", idle.list(), Findings.MANY);
        due("25: ONE_WAY ahead of MANY", crookedLine(true).list(), Findings.ONE_WAY);
        ScreeCourt x = Findings.pair();
        due("26: NONE ahead of BEYOND, nothing being listed", x.listed(0, 2), Findings.NONE);
        x.list();
        due("26: NONE ahead of BEYOND", x.listed(5, 2), Findings.NONE);
        due("26: NONE ahead of BEYOND", x.listed(-1, -1), Findings.NONE);
        due("26: BEYOND", x.listed(4, 2), Findings.BEYOND);
    }

    private static void terraces() {
        ScreeCourt x = new ScreeCourt();
        due("27: BEYOND by the terrace ahead of SIZE", x.terrace(4, 8, -1), Findings.BEYOND);
        due("27: BEYOND by the terrace ahead of SIZE", x.terrace(-1, 0, -1), Findings.BEYOND);
        due("27: BEYOND by the bits ahead of SIZE", x.terrace(0, 12, -1), Findings.BEYOND);
        due("27: BEYOND by the bits ahead of SIZE", x.terrace(0, -8, -1), Findings.BEYOND);
        due("27: SIZE", x.terrace(0, 8, -1), Findings.SIZE);
        due("27: SIZE of the lowest number", x.terrace(0, 64, Integer.MIN_VALUE), Findings.SIZE);
    }

    /** All its findings answer the same, so that only one of them may be counted. */
    private static void puts() {
        ScreeCourt x = new ScreeCourt();
        x.terrace(0, 8, 1);
        due("28: no such terrace, no such number", x.put(4, 99, 1), Long.MIN_VALUE);
        due("28: counted once", x.told(8), 1);
        due("28: MISSING, and no such number", x.put(1, 0, 1), Long.MIN_VALUE);
        due("28: counted once", x.told(8), 2);
        due("28: MISSING, and no such number", x.put(1, -1, 1), Long.MIN_VALUE);
        due("28: counted once", x.told(8), 3);
        due("28: no such number", x.put(0, 1, 1), Long.MIN_VALUE);
        due("28: counted once", x.told(8), 4);
    }

    /** Terraces 0 and 1 of 8 bits, 2 of 16; 3 is MISSING. */
    private static void laid(ScreeCourt x) {
        x.terrace(0, 8, 3);
        x.terrace(1, 8, 2);
        x.terrace(2, 16, 3);
    }

    private static void copies() {
        ScreeCourt x = new ScreeCourt();
        laid(x);
        due("29: BEYOND by the first ahead of MISSING", x.copy(4, 0, 3, 0, 1), Findings.BEYOND);
        due("29: BEYOND by the second ahead of MISSING", x.copy(3, 0, 4, 0, 1), Findings.BEYOND);
        due("29: BEYOND by the second ahead of MISSING", x.copy(3, 0, -1, 0, 1), Findings.BEYOND);
        due("29: MISSING ahead of KIND", x.copy(3, 0, 2, 0, 1), Findings.MISSING);
        due("29: MISSING ahead of KIND", x.copy(2, 0, 3, 0, 1), Findings.MISSING);
        due("29: MISSING ahead of BEYOND by n", x.copy(3, 0, 3, 0, -1), Findings.MISSING);
        due("29: MISSING ahead of BEYOND by from", x.copy(3, -1, 3, 0, 0), Findings.MISSING);
        due("29: MISSING ahead of BEYOND by to", x.copy(0, 0, 3, 9, 0), Findings.MISSING);
        due("29: KIND ahead of BEYOND by n", x.copy(0, 0, 2, 0, -1), Findings.KIND);
        due("29: KIND ahead of BEYOND by n", x.copy(0, 0, 2, 0, 4), Findings.KIND);
        due("29: KIND ahead of BEYOND by from", x.copy(0, -1, 2, 0, 0), Findings.KIND);
        due("29: KIND ahead of BEYOND by to", x.copy(0, 0, 2, -1, 0), Findings.KIND);
        due("29: KIND also of no numbers", x.copy(0, 0, 2, 0, 0), Findings.KIND);
    }

    private static void spreads() {
        ScreeCourt idle = crooked(false);
        laid(idle);
        idle.put(0, 0, -1);
        due("30: BEYOND by the terrace ahead of IDLE", idle.spread(4, 0, 1, 0), Findings.BEYOND);
        due("30: MISSING ahead of BEYOND by from", idle.spread(3, -1, 1, 0), Findings.MISSING);
        due("30: MISSING ahead of BEYOND by n", idle.spread(3, 0, -1, 0), Findings.MISSING);
        due("30: MISSING ahead of BEYOND by the place", idle.spread(3, 0, 0, 9), Findings.MISSING);
        due("30: MISSING ahead of IDLE", idle.spread(3, 0, 0, 0), Findings.MISSING);
        due("30: BEYOND by from ahead of IDLE", idle.spread(0, -1, 1, 0), Findings.BEYOND);
        due("30: BEYOND by n ahead of IDLE", idle.spread(0, 0, -1, 0), Findings.BEYOND);
        due("30: BEYOND by too many numbers ahead of IDLE", idle.spread(0, 2, 2, 0), Findings.BEYOND);
        due("30: BEYOND by too few places ahead of IDLE", idle.spread(0, 0, 2, 1), Findings.BEYOND);
        due("30: BEYOND by the place ahead of IDLE", idle.spread(0, 0, 1, -1), Findings.BEYOND);
        due("30: IDLE ahead of DEBT", idle.spread(0, 0, 1, 0), Findings.IDLE);
        idle.terrace(1, 32, 1);
        idle.put(1, 0, 1000001);
        due("30: IDLE ahead of FULL", idle.spread(1, 0, 1, 0), Findings.IDLE);
    }

    private static void spreadsOfNumbers() {
        ScreeCourt x = crooked(true);
        x.terrace(0, 32, 3);
        x.put(0, 0, 1000001);
        x.put(0, 1, -1);
        x.put(0, 2, 1000001);
        due("30: BEYOND by too few places ahead of DEBT and FULL", x.spread(0, 0, 3, 0), Findings.BEYOND);
        due("30: BEYOND by too many numbers ahead of DEBT and FULL", x.spread(0, 1, 3, 0), Findings.BEYOND);
        due("30: DEBT of the second ahead of FULL of the first", x.spread(0, 0, 2, 0), Findings.DEBT);
        due("30: DEBT of the first ahead of FULL of the second", x.spread(0, 1, 2, 0), Findings.DEBT);
        x.lay(0, 1);
        due("30: DEBT although the place has grains for it", x.spread(0, 1, 1, 0), Findings.DEBT);
        due("30: FULL", x.spread(0, 2, 1, 0), Findings.FULL);
    }

    private static void toldNumbers() {
        ScreeCourt idle = crooked(false);
        due("32: IDLE ahead of SIZE", idle.enough(), Findings.IDLE);
        Findings.tellAll(idle, -1, 1000001);
        due("32: IDLE ahead of DEBT", idle.enough(), Findings.IDLE);
        Findings.tellAll(idle, 9, 9, 9);
        due("33: IDLE ahead of a wrong pair", idle.check(), Findings.IDLE);
        ScreeCourt x = crooked(true);
        Findings.tellAll(x, -1, 0, 0);
        due("32: SIZE ahead of DEBT", x.enough(), Findings.SIZE);
        Findings.tellAll(x, 1000001);
        due("32: SIZE ahead of DEBT", x.enough(), Findings.SIZE);
        x.lay(0, 1000);
        Findings.tellAll(x, 0, -1);
        due("32: DEBT ahead of 0", x.enough(), Findings.DEBT);
        Findings.tellAll(x, 1000001, 1000000);
        due("32: DEBT ahead of what would come of it", x.enough(), Findings.DEBT);
    }
}
