/** Promises 8 to 15. */
public final class GrainsTest {
    private static final Answers ANSWERS = new Answers("GrainsTest");

    public static void main(String[] args) {
        lays();
        layFindings();
        ditches();
        dues();
        slides();
        slideFindings();
        mannerFindings();
        lowestAndFullest();
        toldOrder();
        lots();
        lotsOfManySeeds();
        orderOfTwelve();
        asked();
        askedLoose();
        askedAheadOrBehind();
        askedRowStays();
        runs();
        runIsFull();
        odometers();
        ANSWERS.end();
    }

    private static void due(String call, long got, long want) {
        ANSWERS.due(call, got, want);
    }

    private static void lays() {
        ScreeCourt x = Findings.pair();
        due("8: lay(0, 5)", x.lay(0, 5), 5);
        due("8: lay(0, 0)", x.lay(0, 0), 5);
        due("8: lay(0, -2)", x.lay(0, -2), 3);
        due("8: lay(0, -3)", x.lay(0, -3), 0);
        due("8: lay(1, 1000000)", x.lay(1, 1000000), 1000000);
        due("8: told(4)", x.told(4), 1000000);
        due("9: grains(0)", x.grains(0), 0);
        due("9: grains(1)", x.grains(1), 1000000);
    }

    private static void layFindings() {
        ScreeCourt x = Findings.pair();
        due("8: lay(2, 1)", x.lay(2, 1), Findings.BEYOND);
        due("8: lay(-1, 1)", x.lay(-1, 1), Findings.BEYOND);
        due("8: lay(0, -1)", x.lay(0, -1), Findings.DEBT);
        due("8: lay(0, MIN)", x.lay(0, Integer.MIN_VALUE), Findings.DEBT);
        due("8: lay(0, 1000001)", x.lay(0, 1000001), Findings.FULL);
        due("8: lay(0, MAX)", x.lay(0, Integer.MAX_VALUE), Findings.FULL);
        x.lay(0, 999999);
        due("8: lay(0, 2)", x.lay(0, 2), Findings.FULL);
        due("8: lay(0, MAX)", x.lay(0, Integer.MAX_VALUE), Findings.FULL);
        due("8: lay(0, -1000000)", x.lay(0, -1000000), Findings.DEBT);
        due("8: grains stay", x.grains(0), 999999);
        ScreeCourt idle = new ScreeCourt();
        idle.place(0);
        due("8: IDLE", idle.lay(0, 1), Findings.IDLE);
        due("8: IDLE ahead of DEBT", idle.lay(0, -1), Findings.IDLE);
        due("8: BEYOND ahead of IDLE", idle.lay(1, 1), Findings.BEYOND);
    }

    private static void ditches() {
        ScreeCourt x = Findings.pair();
        x.lay(0, 7);
        x.slide(0);
        due("9: grains(-1)", x.grains(-1), 2);
        due("9: grains(-2)", x.grains(-2), 0);
        x.slide(1);
        due("9: grains(-2)", x.grains(-2), 1);
        due("9: grains(-3)", x.grains(-3), 0);
        due("9: grains(-4)", x.grains(-4), Findings.BEYOND);
        due("9: grains(2)", x.grains(2), Findings.BEYOND);
        due("9: grains(MIN)", x.grains(Integer.MIN_VALUE), Findings.BEYOND);
        due("9: grains(MAX)", x.grains(Integer.MAX_VALUE), Findings.BEYOND);
        due("9: told(8)", x.told(8), 4);
        ScreeCourt big = Findings.pour();
        for (int i = 0; i < 3; i++) {
            big.lay(1, 999999);
            big.slide(1);
        }
        due("9: many grains in a ditch", big.grains(-1), 3 * 999999);
    }

    private static void dues() {
        ScreeCourt x = new ScreeCourt();
        due("10: no places", x.due(), 0);
        x.place(Findings.RIM);
        due("10: a place without a load", x.due(), 0);
        ScreeCourt y = Findings.pair();
        y.lay(0, 2);
        due("10: below the load", y.due(), 0);
        y.lay(0, 1);
        due("10: at the load", y.due(), 1);
        y.lay(1, 400);
        due("10: both", y.due(), 2);
        due("35: told(3)", y.told(3), 0);
    }

    private static void slides() {
        ScreeCourt x = new ScreeCourt();
        for (int kind : new int[] {Findings.LEDGE, Findings.SHELF, Findings.CHUTE, Findings.RIM, Findings.LOOSE}) {
            x.place(kind);
        }
        for (int place = 0; place < 5; place++) {
            x.way(place, (place + 1) % 5, 1);
            x.way(place, (place + 2) % 5, 1);
        }
        x.way(3, -3, 3);
        x.begin();
        for (int place = 0; place < 5; place++) {
            x.lay(place, 11);
        }
        due("11: LEDGE once", x.slide(0), 1);
        due("11: SHELF at once", x.slide(1), 6);
        due("11: its rest", x.grains(1), 0);
        due("11: CHUTE at once (11 + 1 + 6)", x.slide(2), 9);
        due("11: RIM at once (11 + 6 + 9 by 5)", x.slide(3), 5);
        due("11: its rest", x.grains(3), 1);
        due("11: ditch", x.grains(-3), 15);
        due("11: LOOSE once (11 + 9 + 5)", x.slide(4), 1);
        due("11: grains of it", x.grains(4), 23);
        due("11: grains of 0", x.grains(0), 9 + 5 + 1);
        due("11: grains of 1", x.grains(1), 1);
        due("14: odometer", x.odometer(2), 9);
        due("14: odometer", x.odometer(4), 1);
    }

    private static void slideFindings() {
        ScreeCourt x = Findings.pour();
        due("11: BEYOND", x.slide(2), Findings.BEYOND);
        due("11: BEYOND", x.slide(-1), Findings.BEYOND);
        due("11: IDLE", x.slide(0), Findings.IDLE);
        x.lay(0, 1);
        x.lay(1, 1000000);
        due("11: FULL", x.slide(0), Findings.FULL);
        due("11: grains stay", x.grains(0), 1);
        due("14: odometer stays", x.odometer(0), 0);
        x.lay(1, -1);
        due("11: just not FULL", x.slide(0), 1);
        due("9: at the limit", x.grains(1), 1000000);
        due("11: the limit slides", x.slide(1), 111111);
        due("9: rest", x.grains(1), 1);
        ScreeCourt idle = new ScreeCourt();
        idle.place(Findings.RIM);
        due("11: not begun is IDLE", idle.slide(0), Findings.IDLE);
    }

    private static void mannerFindings() {
        ScreeCourt idle = new ScreeCourt();
        idle.place(Findings.RIM);
        due("12: BEYOND ahead of IDLE", idle.manner(5, 0), Findings.BEYOND);
        due("12: BEYOND ahead of IDLE", idle.manner(3, -1), Findings.BEYOND);
        due("12: IDLE", idle.manner(0, 0), Findings.IDLE);
        due("12: IDLE ahead of BEYOND of 2", idle.manner(2, 0), Findings.IDLE);
        ScreeCourt x = Findings.fan();
        due("12: manner(-1)", x.manner(-1, 0), Findings.BEYOND);
        due("12: manner(5)", x.manner(5, 0), Findings.BEYOND);
        due("12: seed below 0", x.manner(3, -1), Findings.BEYOND);
        due("12: seed of others is free", x.manner(1, -1), 0);
        due("35: seed is that of 3 alone", x.told(6), 1);
        due("12: highest seed", x.manner(3, Integer.MAX_VALUE), 1);
        due("35: seed", x.told(6), Integer.MAX_VALUE);
        due("12: seed 0", x.manner(3, 0), 3);
        due("35: seed", x.told(6), 0);
        due("12: 4", x.manner(4, -5), 3);
        due("35: seed stays", x.told(6), 0);
        due("12: no numbers", x.manner(2, 0), Findings.BEYOND);
        int[][] wrong = {{0, 1, 2}, {0, 1, 2, 3, 0}, {0, 1, 2, 2}, {0, 1, 2, 4}, {-1, 1, 2, 3}, {0, 1, 2, 35}};
        for (int[] order : wrong) {
            Findings.tellAll(x, order);
            due("12: not an order", x.manner(2, 0), Findings.BEYOND);
            due("12: they stay", x.told(5), order.length);
            x.enough();
        }
        Findings.tellAll(x, 3, 1, 0, 2);
        due("12: an order", x.manner(2, 0), 4);
        due("12: they are gone", x.told(5), 0);
        due("12: what it was", x.manner(0, 0), 2);
    }

    private static void lowestAndFullest() {
        ScreeCourt x = Findings.fan();
        x.lay(1, 2);
        x.lay(2, 3);
        x.run(1);
        due("13: the lowest", x.grains(1), 1);
        x.manner(1, 0);
        x.run(1);
        due("13: the one with the most", x.grains(2), 2);
        x.run(1);
        due("13: again", x.grains(2), 1);
        x.run(1);
        due("13: of several the lowest", x.grains(1), 0);
        x.lay(3, 8);
        due("13: more grains but not due", x.grains(3), 12);
        x.lay(3, -4);
        x.run(1);
        due("13: 8 are below the load of 9", x.grains(2), 0);
    }

    private static void toldOrder() {
        ScreeCourt x = Findings.fan();
        Findings.tellAll(x, 2, 3, 0, 1);
        x.manner(2, 0);
        x.lay(0, 2);
        x.lay(1, 9);
        x.lay(2, 1);
        x.lay(3, 8);
        due("13: SPENT", x.run(1), Findings.SPENT);
        due("13: first in order", x.grains(2), 0);
        due("13: SPENT", x.run(1), Findings.SPENT);
        due("13: then the RIM", x.grains(3), 0);
        due("13: SPENT", x.run(1), Findings.SPENT);
        due("13: then 0", x.grains(0), 1);
        due("13: all the rest", x.run(100), 1 + 7 + 1 + 2);
        due("9: the rest", x.grains(3), 2);
    }

    private static void lots() {
        ScreeCourt x = Findings.fan();
        for (int place = 0; place < 3; place++) {
            x.lay(place, 1);
        }
        x.manner(3, 1);
        due("13: SPENT", x.run(1), Findings.SPENT);
        due("35: seed is 1 * 1103515245 + 12345", x.told(6), 1103527590);
        due("13: 4310654 modulo 3 is 2", x.grains(2), 0);
        due("13: others stay", x.grains(0) + x.grains(1), 2);
        due("13: SPENT", x.run(1), Findings.SPENT);
        long next = (1103527590L * 1103515245L + 12345L) % 2147483648L;
        due("35: seed", x.told(6), next);
        due("13: of two", x.grains((int) (next / 256 % 2)), 0);
        due("13: the last", x.run(1), 1);
        next = (next * 1103515245L + 12345L) % 2147483648L;
        due("35: a lot of one is a lot, too", x.told(6), next);
        due("13: stands", x.run(1), 0);
        due("35: no lot for nothing", x.told(6), next);
    }

    private static void lotsOfManySeeds() {
        for (int seed = 2; seed < 40; seed++) {
            ScreeCourt x = Findings.fan();
            for (int place = 0; place < 3; place++) {
                x.lay(place, 1);
            }
            x.manner(3, seed);
            x.run(1);
            long lot = (seed * 1103515245L + 12345L) % 2147483648L / 256L % 3L;
            for (int place = 0; place < 3; place++) {
                due("13: lot of seed " + seed, x.grains(place), place == lot ? 0 : 1);
            }
        }
    }

    private static void orderOfTwelve() {
        ScreeCourt x = new ScreeCourt();
        for (int place = 0; place < 12; place++) {
            x.place(Findings.RIM);
            x.way(place, -1, 1);
        }
        x.begin();
        for (int place = 0; place < 12; place++) {
            x.lay(place, 1);
            x.tell((place + 5) % 12);
        }
        due("12: twelve places", x.manner(2, 0), 0);
        for (int i = 0; i < 12; i++) {
            x.run(1);
            due("13: number " + i + " of the order", x.grains((i + 5) % 12), 0);
            due("10: the others", x.due(), 11 - i);
        }
    }

    /** LEDGEs 0, 1 and 3 have a way to RIM 4, and 2 has ways to 0 and 1. */
    private static ScreeCourt fork(int kindOfTwo) {
        ScreeCourt x = new ScreeCourt();
        for (int place = 0; place < 5; place++) {
            x.place(place == 2 ? kindOfTwo : place == 4 ? Findings.RIM : Findings.LEDGE);
        }
        x.way(0, 4, 1);
        x.way(1, 4, 1);
        x.way(2, 1, 1);
        x.way(2, 0, 1);
        x.way(3, 4, 1);
        x.way(4, -1, 9);
        x.begin();
        x.manner(4, 0);
        x.lay(2, 2);
        x.lay(3, 1);
        return x;
    }

    private static void askedAheadOrBehind() {
        // 0 and 1 are asked in vain, 2 slides
        ScreeCourt loose = fork(Findings.LOOSE);
        // row 0 1 3 4
        int[] order = {2, 0, 1, 3};
        for (int i = 0; i < order.length; i++) {
            loose.run(1);
            due("13: ahead of the row, slide " + i, loose.odometer(order[i]), 1);
            due("13: and no other", loose.due(), i == 0 ? 3 : 3 - i);
        }
        ScreeCourt ledge = fork(Findings.LEDGE);
        // row 3 4 0 1
        order = new int[] {2, 3, 0, 1};
        for (int i = 0; i < order.length; i++) {
            ledge.run(1);
            due("13: behind the row, slide " + i, ledge.odometer(order[i]), 1);
            due("13: and no other", ledge.due(), i == 0 ? 3 : 3 - i);
        }
    }

    /** LEDGE 0 to 1 and 2; LEDGE 1 to 0 and 2; RIM 2 to 1 and to ditch 0. */
    private static ScreeCourt ring(int kindOfFirst) {
        ScreeCourt x = new ScreeCourt();
        x.place(kindOfFirst);
        x.place(Findings.LEDGE);
        x.place(Findings.RIM);
        x.way(0, 1, 1);
        x.way(0, 2, 1);
        x.way(1, 0, 1);
        x.way(1, 2, 1);
        x.way(2, 1, 1);
        x.way(2, -1, 1);
        x.begin();
        return x;
    }

    private static void slidesOf(ScreeCourt x, String which, int slides, int... odometer) {
        due(which, x.run(slides), Findings.SPENT);
        for (int place = 0; place < odometer.length; place++) {
            due(which + ", odometer(" + place + ")", x.odometer(place), odometer[place]);
        }
    }

    private static void asked() {
        ScreeCourt x = ring(Findings.LEDGE);
        x.manner(4, 0);
        x.lay(0, 6);
        x.lay(1, 6);
        // row 0 1 2: 0 slides, 1 and 2 are in the row already
        slidesOf(x, "13: first asked", 1, 1, 0, 0);
        // row 1 2: 1 slides, 0 comes behind
        slidesOf(x, "13: second asked", 1, 1, 1, 0);
        // row 2 0: 2 has 2 grains and slides, 1 comes behind
        slidesOf(x, "13: third asked", 1, 1, 1, 1);
        // row 0 1: 0 slides, 2 comes behind
        slidesOf(x, "13: fourth asked", 1, 2, 1, 1);
        // row 1 2: 1 slides, 0 comes behind
        slidesOf(x, "13: fifth asked", 1, 2, 2, 1);
    }

    private static void askedLoose() {
        ScreeCourt x = ring(Findings.LOOSE);
        x.manner(4, 0);
        x.lay(0, 9);
        x.lay(1, 1);
        // row 0 1 2: LOOSE 0 slides; 1 and 2 stay where they are in the row
        slidesOf(x, "13: LOOSE first", 1, 1, 0, 0);
        // row 1 2: 1 slides (2 grains), 0 comes behind: 2 0
        slidesOf(x, "13: LEDGE next", 1, 1, 1, 0);
        // row 2 0: 2 slides (2 grains), 1 comes behind: 0 1
        slidesOf(x, "13: RIM next", 1, 1, 1, 1);
        // row 0 1: LOOSE 0 slides, 2 comes ahead: 2 1; 2 has 1 grain, 1 has 2
        slidesOf(x, "13: LOOSE again", 1, 2, 1, 1);
        slidesOf(x, "13: 2 was asked in vain, 1 slides", 1, 2, 2, 1);
        // row 0: LOOSE 0 (6 grains) slides, 1 and 2 come ahead, 1 first; 1 has 1 grain, 2 has 3
        slidesOf(x, "13: LOOSE, row empty", 1, 3, 2, 1);
        slidesOf(x, "13: 1 asked in vain, 2 slides", 1, 3, 2, 2);
    }

    private static void askedRowStays() {
        ScreeCourt x = Findings.fan();
        x.manner(4, 0);
        x.lay(0, 1);
        due("13: one slides, row 1 2 3 is left", x.run(9), 1);
        x.lay(0, 1);
        x.lay(2, 1);
        due("13: the row goes on at 1", x.run(1), Findings.SPENT);
        due("13: 2 was asked ahead of 0", x.grains(2), 0);
        due("13: 3 in vain, then all: 0", x.run(9), 1);
        due("13: 0", x.grains(0), 0);
        x.lay(0, 1);
        x.lay(2, 1);
        x.manner(4, 0);
        due("12: an empty row", x.run(1), Findings.SPENT);
        due("13: 0 is first again", x.grains(0), 0);
    }

    private static void runs() {
        ScreeCourt x = Findings.drip();
        due("13: stands already", x.run(1), 0);
        due("13: BEYOND", x.run(0), Findings.BEYOND);
        due("13: BEYOND", x.run(-1), Findings.BEYOND);
        due("13: BEYOND", x.run(5001), Findings.BEYOND);
        x.lay(0, 4999);
        due("13: just enough", x.run(5000), 5000);
        due("9: ditch", x.grains(-3), 4999);
        x.lay(0, 5000);
        due("13: one too few", x.run(5000), Findings.SPENT);
        due("13: but they did", x.grains(1), 5000);
        due("13: a SHELF at once is one slide", x.run(1), 1);
        due("14: odometer", x.odometer(1), 9999);
        ScreeCourt idle = new ScreeCourt();
        due("13: IDLE", idle.run(1), Findings.IDLE);
        due("13: BEYOND ahead of IDLE", idle.run(0), Findings.BEYOND);
    }

    private static void runIsFull() {
        ScreeCourt x = Findings.fan();
        x.lay(0, 2);
        x.lay(3, 999999);
        Findings.tellAll(x, 0, 1, 2, 3);
        x.manner(2, 0);
        due("13: FULL", x.run(10), Findings.FULL);
        due("13: slides ahead of that did", x.grains(0), 1);
        due("13: to the limit", x.grains(3), 1000000);
        due("14: odometer", x.odometer(0), 1);
        ScreeCourt y = Findings.pour();
        y.lay(0, 1);
        y.lay(1, 1000000);
        y.manner(3, 0);
        due("13: seed 0 is 12345 then: 48 modulo 2 is 0", y.run(10), Findings.FULL);
        due("35: the seed is as behind choosing", y.told(6), 12345);
        y.manner(4, 0);
        due("13: FULL when asked", y.run(10), Findings.FULL);
        y.lay(1, -1000000);
        y.lay(1, 9);
        due("13: 0 is gone from the row: 1 is asked first", y.run(1), Findings.SPENT);
        due("13: 1 slid", y.grains(1), 0);
        due("13: 0 did not", y.grains(0), 1);
    }

    private static void odometers() {
        ScreeCourt x = Findings.pair();
        due("14: odometer(0)", x.odometer(0), 0);
        due("14: BEYOND", x.odometer(2), Findings.BEYOND);
        due("14: BEYOND of a ditch", x.odometer(-1), Findings.BEYOND);
        due("15: reset of nothing", x.reset(), 0);
        x.lay(0, 30);
        x.slide(0);
        due("14: odometer(0)", x.odometer(0), 10);
        due("15: reset", x.reset(), 1);
        due("14: odometer(0)", x.odometer(0), 0);
        due("15: again", x.reset(), 0);
        x.run(3);
        due("15: both", x.reset(), 2);
        due("9: ditches stay", x.grains(-1) > 0 ? 1 : 0, 1);
        ScreeCourt big = new ScreeCourt();
        big.place(Findings.RIM);
        big.way(0, -1, 1);
        big.begin();
        for (int i = 0; i < 200; i++) {
            big.lay(0, 1000000);
            big.run(1);
        }
        due("14: many", big.odometer(0), 200000000L);
    }
}
