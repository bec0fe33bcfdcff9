/** Promises 2 to 15: at each number that is named, the last input that is still taken and the first that is not. */
public final class GrainsEdgesTest {
    private static final Answers ANSWERS = new Answers("GrainsEdgesTest");
    private static final int MAX = Integer.MAX_VALUE;
    private static final int MIN = Integer.MIN_VALUE;
    private static final int MILLION = 1000000;

    public static void main(String[] args) {
        places();
        waysOfTwelve();
        beginsOfTwelve();
        anewBehindTwelve();
        lays();
        ditchesBeyondInt();
        slidesToTheLimit();
        slidesOfTwelve();
        manners();
        ordersOfTwelve();
        runLengths();
        runsToTheLimit();
        odometersBeyondInt();
        odometersOfTwelve();
        ANSWERS.end();
    }

    private static void due(String call, long got, long want) {
        ANSWERS.due(call, got, want);
    }

    private static ScreeCourt placesOf(int count, int kind) {
        ScreeCourt x = new ScreeCourt();
        for (int p = 0; p < count; p++) {
            x.place(kind);
        }
        return x;
    }

    /** RIMs, each with weight 1 to ditch 2. */
    private static ScreeCourt apart(int count) {
        ScreeCourt x = placesOf(count, Findings.RIM);
        for (int p = 0; p < count; p++) {
            x.way(p, -3, 1);
        }
        x.begin();
        return x;
    }

    private static void places() {
        due("2: kind 0", new ScreeCourt().place(0), 0);
        due("2: kind 4", new ScreeCourt().place(4), 0);
        due("2: kind -1", new ScreeCourt().place(-1), Findings.BEYOND);
        due("2: kind 5", new ScreeCourt().place(5), Findings.BEYOND);
        due("2: kind MAX", new ScreeCourt().place(MAX), Findings.BEYOND);
        due("2: the 12th", placesOf(11, 0).place(0), 11);
        due("2: the 13th", placesOf(12, 0).place(0), Findings.FULL);
        ScreeCourt x = placesOf(13, 0);
        due("2: there are 12", x.told(1), 12);
        due("2: the last one", x.as(11, 0), 11);
        due("2: and no more", x.as(12, 0), Findings.BEYOND);
    }

    private static void waysOfTwelve() {
        ScreeCourt x = placesOf(12, Findings.RIM);
        due("3: from the last", x.way(11, 0, 9), 9);
        due("3: to the last", x.way(0, 11, 9), 9);
        due("3: to ditch 0", x.way(11, -1, 1), 10);
        due("3: to ditch 2", x.way(11, -3, 9), 19);
        due("3: from one behind the last", x.way(12, 0, 1), Findings.BEYOND);
        due("3: to one behind the last", x.way(0, 12, 1), Findings.BEYOND);
        due("3: from one ahead of the first", x.way(-1, 0, 1), Findings.BEYOND);
        due("3: to ditch 3", x.way(0, -4, 1), Findings.BEYOND);
        due("3: the last to itself", x.way(11, 11, 1), Findings.BEYOND);
        due("3: weight 0", x.way(11, 0, 0), Findings.BEYOND);
        due("3: weight 10", x.way(11, 0, 10), Findings.BEYOND);
        due("3: weight MIN", x.way(11, 0, MIN), Findings.BEYOND);
        due("7: from the last", x.weight(11, 0), 9);
        due("7: to the last", x.weight(0, 11), 9);
        due("7: to ditch 2", x.weight(11, -3), 9);
        due("7: the last to itself", x.weight(11, 11), 0);
        due("7: from 12", x.weight(12, 0), Findings.BEYOND);
        due("7: to 12", x.weight(0, 12), Findings.BEYOND);
        due("7: to ditch 3", x.weight(0, -4), Findings.BEYOND);
        due("7: from -1", x.weight(-1, 0), Findings.BEYOND);
        due("6: the last", x.as(11, 3), 11);
        due("6: kind 4 of it", x.as(11, 4), Findings.KIND);
        due("6: kind 5 of it", x.as(11, 5), Findings.BEYOND);
        due("6: kind -1 of it", x.as(11, -1), Findings.BEYOND);
    }

    /** The longest rows of ways there can be, upward and downward. */
    private static void beginsOfTwelve() {
        ScreeCourt up = placesOf(12, Findings.RIM);
        ScreeCourt down = placesOf(12, Findings.RIM);
        for (int p = 0; p < 11; p++) {
            up.way(p, p + 1, 1);
            down.way(p + 1, p, 1);
        }
        due("4: all twelve are lost", up.begin(), Findings.LOST);
        due("4: their bits", up.told(0), 4095);
        up.way(11, -1, 1);
        down.way(0, -3, 1);
        due("4: a row of twelve ways upward", up.begin(), 12);
        due("4: a row of twelve ways downward", down.begin(), 12);
        due("4: no LOST there", down.told(0), 0);
        ScreeCourt last = placesOf(12, Findings.RIM);
        for (int p = 0; p < 11; p++) {
            last.way(p, -2, 1);
        }
        last.way(0, 11, 1);
        due("4: a way to the last one does not lead it out", last.begin(), Findings.LOST);
        due("4: the last one's bit", last.told(0), 2048);
        ScreeCourt one = placesOf(1, Findings.RIM);
        due("4: one without ways", one.begin(), Findings.LOST);
        due("4: its bit", one.told(0), 1);
        one.way(0, -3, 1);
        due("4: one with a way to ditch 2", one.begin(), 1);
        due("4: none at all", new ScreeCourt().begin(), Findings.NONE);
    }

    private static void anewBehindTwelve() {
        ScreeCourt x = apart(12);
        for (int p = 0; p < 12; p++) {
            x.lay(p, p + 1);
        }
        x.run(12);
        x.lay(11, 5);
        x.anew();
        for (int p = 0; p < 12; p++) {
            due("5: no such place any more", x.grains(p), Findings.BEYOND);
            due("5: place", x.place(Findings.LOOSE), p);
            due("5: its grains", x.grains(p), 0);
            due("5: its odometer", x.odometer(p), 0);
            due("5: its weight", x.weight(p, -3), 0);
            due("5: its load", x.way(p, (p == 0 ? 1 : p) - 1, 1), p == 0 ? Findings.BEYOND : 1);
        }
        due("5: FULL at 12 again", x.place(0), Findings.FULL);
        for (int d = 0; d < 3; d++) {
            due("5: ditch " + d, x.grains(-1 - d), 0);
        }
        anewBehindAllWays();
        ScreeCourt twice = new ScreeCourt();
        due("5: of a new object", twice.anew(), 0);
        due("5: and again", twice.anew(), 0);
        due("5: no finding", twice.told(8), 0);
    }

    /** Every way there can be has a weight, and then none has. */
    private static void anewBehindAllWays() {
        ScreeCourt x = placesOf(12, Findings.RIM);
        for (int p = 0; p < 12; p++) {
            for (int to = -3; to < 12; to++) {
                x.way(p, to, 1);
            }
        }
        x.anew();
        for (int p = 0; p < 12; p++) {
            x.place(Findings.RIM);
        }
        for (int p = 0; p < 12; p++) {
            due("5: the load of " + p, x.way(p, -1 - p % 3, 2), 2);
            x.way(p, -1 - p % 3, 1);
            for (int to = -3; to < 12; to++) {
                if (to != -1 - p % 3) {
                    due("5: weight(" + p + ", " + to + ")", x.weight(p, to), 0);
                }
            }
        }
    }

    private static void lays() {
        ScreeCourt x = apart(12);
        due("8: the last place", x.lay(11, MILLION), MILLION);
        due("8: one more", x.lay(11, 1), Findings.FULL);
        due("8: MAX more", x.lay(11, MAX), Findings.FULL);
        due("8: none more", x.lay(11, 0), MILLION);
        due("8: one less", x.lay(11, -1), 999999);
        due("8: one more", x.lay(11, 1), MILLION);
        due("8: one too many less", x.lay(11, -MILLION - 1), Findings.DEBT);
        due("8: MIN", x.lay(11, MIN), Findings.DEBT);
        due("8: all", x.lay(11, -MILLION), 0);
        due("8: none is left", x.lay(11, -1), Findings.DEBT);
        due("8: 1000001 at once", x.lay(11, MILLION + 1), Findings.FULL);
        due("8: place 12", x.lay(12, 1), Findings.BEYOND);
        due("8: a ditch", x.lay(-1, 1), Findings.BEYOND);
        for (int p = 0; p < 12; p++) {
            x.lay(p, MILLION);
        }
        due("35: all grains", x.told(4), 12 * MILLION);
        due("19: all grains", x.keep(0), 12 * MILLION);
        due("20: all grains", x.bring(0), 12 * MILLION);
        due("10: all are due", x.due(), 12);
        due("9: the last", x.grains(11), MILLION);
        due("9: behind the last", x.grains(12), Findings.BEYOND);
        due("9: ditch 2", x.grains(-3), 0);
        due("9: ditch 3", x.grains(-4), Findings.BEYOND);
    }

    /** Twelve million grains fall by two calls: more than an int can tell. */
    private static void ditchesBeyondInt() {
        ScreeCourt x = apart(12);
        for (int p = 0; p < 12; p++) {
            x.lay(p, MILLION);
        }
        x.keep(0);
        long fell = 0;
        for (int i = 0; i < 200; i++) {
            x.bring(0);
            due("13: twelve slides", x.run(12), 12);
            fell += 12L * MILLION;
        }
        due("9: what fell", x.grains(-3), fell);
        due("9: which is above MAX", fell > MAX ? 1 : 0, 1);
        due("34: undo", x.undo(), 0);
        due("34: what fell is back", x.grains(-3), fell - 12L * MILLION);
    }

    /** A place with a way of some weight to RIM 1, which has so many grains ahead of it. */
    private static ScreeCourt beside(int kind, int weight, int own, int others) {
        ScreeCourt x = new ScreeCourt();
        x.place(kind);
        x.place(Findings.RIM);
        x.way(0, 1, weight);
        x.way(1, -1, 1);
        x.begin();
        x.lay(0, own);
        x.lay(1, others);
        return x;
    }

    private static void slidesToTheLimit() {
        int[][] fits = {
            {Findings.LEDGE, 1, MILLION, 999999}, {Findings.LOOSE, 1, 1, 999999}, {Findings.SHELF, 1, 10, 999990},
            {Findings.SHELF, 1, MILLION, 0}, {Findings.CHUTE, 9, 9, 999991}, {Findings.CHUTE, 9, 35, 999973},
            {Findings.RIM, 7, 999999, 1},
        };
        for (int[] f : fits) {
            String which = "kind " + f[0] + ", weight " + f[1] + ", " + f[2] + " beside " + f[3];
            int times = f[0] == Findings.LEDGE || f[0] == Findings.LOOSE ? 1 : f[2] / f[1];
            ScreeCourt x = beside(f[0], f[1], f[2], f[3]);
            due("11: just fits, " + which, x.slide(0), times);
            due("11: the limit, " + which, x.grains(1), MILLION);
            ScreeCourt y = beside(f[0], f[1], f[2], f[3] + 1);
            due("11: one too many, " + which, y.slide(0), Findings.FULL);
            due("11: nothing slid, " + which, y.grains(0), f[2]);
            due("11: nothing came, " + which, y.grains(1), f[3] + 1);
        }
    }

    private static void slidesOfTwelve() {
        for (int full = 0; full < 12; full++) {
            ScreeCourt x = placesOf(12, Findings.RIM);
            int from = full == 5 ? 6 : 5;
            for (int p = 0; p < 12; p++) {
                if (p != from) {
                    x.way(from, p, 1);
                    x.way(p, -1, 1);
                }
            }
            x.way(from, -1, 9);
            x.begin();
            x.lay(from, 20);
            x.lay(full, MILLION);
            due("11: FULL by end " + full, x.slide(from), Findings.FULL);
            due("11: nothing fell", x.grains(-1), 0);
            x.lay(full, -1);
            due("11: no longer", x.slide(from), 1);
            due("11: the limit", x.grains(full), MILLION);
            due("11: the ditch has its own", x.grains(-1), 9);
        }
        ScreeCourt x = apart(12);
        x.lay(11, 3);
        due("11: the last", x.slide(11), 3);
        due("11: behind the last", x.slide(12), Findings.BEYOND);
        due("11: ahead of the first", x.slide(-1), Findings.BEYOND);
    }

    private static void manners() {
        ScreeCourt x = Findings.pair();
        due("12: 4", x.manner(4, 0), 0);
        due("12: 5", x.manner(5, 0), Findings.BEYOND);
        due("12: -1", x.manner(-1, 0), Findings.BEYOND);
        due("12: MIN", x.manner(MIN, 0), Findings.BEYOND);
        due("12: it is 4 still", x.manner(0, 0), 4);
        due("12: seed MAX", x.manner(3, MAX), 0);
        due("35: the seed", x.told(6), MAX);
        due("12: seed -1", x.manner(3, -1), Findings.BEYOND);
        due("12: seed MIN", x.manner(3, MIN), Findings.BEYOND);
        due("35: the seed stays", x.told(6), MAX);
        due("12: seed 0", x.manner(3, 0), 3);
        due("35: the seed", x.told(6), 0);
        for (int manner : new int[] {0, 1, 4}) {
            due("12: the seed is of 3 alone", x.manner(manner, -1) >= 0 ? 1 : 0, 1);
            due("12: the seed is of 3 alone", x.manner(manner, 99), manner);
            due("35: it stays", x.told(6), 0);
        }
        Findings.tellAll(x, 1, 0);
        for (int manner : new int[] {0, 1, 3, 4}) {
            x.manner(manner, 0);
            due("12: numbers are of 2 alone", x.told(5), 2);
        }
        due("12: the seed is of 3 alone", x.manner(2, -1), 4);
        due("12: the numbers are gone", x.told(5), 0);
        due("35: it stays", x.told(6), 0);
        due("12: an order is needed again", x.manner(2, 0), Findings.BEYOND);
        due("12: it is 2 still", x.manner(1, 0), 2);
    }

    private static void ordersOfTwelve() {
        ScreeCourt x = apart(12);
        for (int i = 0; i < 11; i++) {
            x.tell(11 - i);
        }
        due("12: eleven of twelve", x.manner(2, 0), Findings.BEYOND);
        x.tell(0);
        x.tell(0);
        due("12: thirteen", x.manner(2, 0), Findings.BEYOND);
        due("12: they stay", x.told(5), 13);
        x.check();
        int[][] wrong = {{12, 0}, {-1, 0}, {11, 0}, {MIN, 0}, {MAX, 0}, {32, 0}, {-32, 0}, {-21, 11}};
        for (int[] w : wrong) {
            for (int i = 0; i < 12; i++) {
                x.tell(i == w[1] ? w[0] : i);
            }
            due("12: " + w[0] + " in place of " + w[1], x.manner(2, 0), Findings.BEYOND);
            due("12: they stay", x.told(5), 12);
            x.check();
        }
        for (int i = 0; i < 12; i++) {
            x.tell(11 - i);
        }
        due("12: each once", x.manner(2, 0), 0);
        due("12: they are gone", x.told(5), 0);
        for (int p = 0; p < 12; p++) {
            x.lay(p, 1);
        }
        for (int p = 11; p >= 0; p--) {
            x.run(1);
            due("13: downward", x.odometer(p), 1);
        }
    }

    private static void runLengths() {
        ScreeCourt x = Findings.drip();
        x.lay(0, 4);
        due("13: 5 are needed, 4 may be", x.run(4), Findings.SPENT);
        x.undo();
        due("13: 5 may be", x.run(5), 5);
        x.undo();
        due("13: 6 may be", x.run(6), 5);
        due("13: 1 may be, none is needed", x.run(1), 0);
        due("13: 0", x.run(0), Findings.BEYOND);
        due("13: -1", x.run(-1), Findings.BEYOND);
        due("13: 5001", x.run(5001), Findings.BEYOND);
        due("13: MIN", x.run(MIN), Findings.BEYOND);
        due("13: MAX", x.run(MAX), Findings.BEYOND);
        ScreeCourt most = Findings.drip();
        most.lay(0, 5000);
        due("13: 5001 are needed", most.run(5000), Findings.SPENT);
        due("13: 5000 did", most.odometer(0) + most.odometer(1), 5000);
        due("13: the last one", most.run(5000), 1);
        most.lay(0, 4999);
        due("13: 5000 are needed", most.run(5000), 5000);
    }

    private static void runsToTheLimit() {
        for (int manner = 0; manner < 5; manner++) {
            for (int over = 0; over < 2; over++) {
                // the slide of 0 brings 1 to the limit, or would bring it beyond
                ScreeCourt x = new ScreeCourt();
                x.place(Findings.LEDGE);
                x.place(Findings.RIM);
                x.way(0, 1, 1);
                x.way(1, -1, 9);
                x.begin();
                Findings.tellAll(x, 0, 1);
                due("12: manner " + manner, x.manner(manner, 1) >= 0 ? 1 : 0, 1);
                x.lay(0, 1);
                x.lay(1, 999999 + over);
                fullOrNot("manner " + manner + ", over " + over, x, manner, over);
            }
        }
    }

    /** Manners 0, 2 and 4 let 0 slide first, 1 lets the RIM; a seed of 1 draws 4310654, which is even. */
    private static void fullOrNot(String which, ScreeCourt x, int manner, int over) {
        boolean full = over == 1 && manner != 1;
        due("13: " + which, x.run(1), full ? Findings.FULL : Findings.SPENT);
        due("14: 0 slid, " + which, x.odometer(0), full || manner == 1 ? 0 : 1);
        due("9: grains of 1, " + which, x.grains(1), full ? MILLION + over - 1 : manner == 1 ? over : MILLION);
        due("35: FULL and SPENT are counted, " + which, x.told(8), 1);
        due("34: it can be undone, " + which, x.undo(), 2);
        due("34: grains of 1, " + which, x.grains(1), 999999 + over);
        due("34: the seed, " + which, x.told(6), 1);
    }

    /** A million grains go round and round, and little is lost: 0 slides oftener than an int can tell. */
    private static void odometersBeyondInt() {
        ScreeCourt x = new ScreeCourt();
        x.place(Findings.RIM);
        x.place(Findings.RIM);
        x.way(0, 1, 1);
        x.way(1, -1, 1);
        for (int i = 0; i < 200; i++) {
            x.way(1, 0, 9);
        }
        x.begin();
        long laid = 0;
        for (int i = 0; i < 6; i++) {
            int more = 990000 - (int) x.grains(0) - (int) x.grains(1);
            x.lay(0, more);
            laid += more;
            x.run(5000);
        }
        // of each slide of 1 one grain fell, so that what came to 0 is known
        long slid = laid + 1800 * x.grains(-1) - x.grains(0);
        due("14: odometer(0)", x.odometer(0), slid);
        due("14: which is above MAX", slid > MAX ? 1 : 0, 1);
        due("14: odometer(1)", x.odometer(1), x.grains(-1));
        due("15: reset", x.reset(), 2);
        due("14: odometer(0)", x.odometer(0), 0);
        due("9: what fell stays", x.grains(-1) > 0 ? 1 : 0, 1);
    }

    private static void odometersOfTwelve() {
        ScreeCourt x = apart(12);
        for (int p = 0; p < 12; p++) {
            x.lay(p, p + 1);
        }
        due("13: all", x.run(12), 12);
        for (int p = 0; p < 12; p++) {
            due("14: odometer(" + p + ")", x.odometer(p), p + 1);
        }
        due("14: behind the last", x.odometer(12), Findings.BEYOND);
        due("14: ahead of the first", x.odometer(-1), Findings.BEYOND);
        due("14: MIN", x.odometer(MIN), Findings.BEYOND);
        due("15: all", x.reset(), 12);
        due("15: none", x.reset(), 0);
        x.lay(11, 1);
        x.slide(11);
        due("15: the last", x.reset(), 1);
        due("14: the last", x.odometer(11), 0);
        due("15: not begun", placesOf(12, 0).reset(), 0);
        due("14: not begun", placesOf(12, 0).odometer(11), 0);
    }
}
