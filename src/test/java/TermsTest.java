import java.math.BigInteger;

/** The sentences of 'Terms': findings, kinds, due places, slides, manners, lots, the row of ASKED, burning. */
public final class TermsTest {
    private static final Answers ANSWERS = new Answers("TermsTest");

    public static void main(String[] args) {
        findingsByNumber();
        kindsAndTheirWays();
        severalAreAsOne();
        dueAtTheLoad();
        slidesByKind();
        mostGrains();
        lotsOfAllSizes();
        lotsAtTheEnds();
        askedInVain();
        askedRowIsFull();
        askedOfDitches();
        askedLooseLowestFirst();
        askedLooseAmongThose();
        askedLooseOfTheLast();
        askedByRunAlone();
        askedBehindSpent();
        askedBehindFull();
        burningAtTheSum();
        burningLowestFirst();
        slotsHoldNothing();
        noughtAndContrary();
        ANSWERS.end();
    }

    private static void due(String call, long got, long want) {
        ANSWERS.due(call, got, want);
    }

    private static void findingsByNumber() {
        ScreeCourt x = new ScreeCourt();
        due("BEYOND", x.place(9), -1);
        due("MISSING", x.copy(0, 0, 0, 0, 0), -2);
        due("SIZE", x.terrace(0, 8, -1), -3);
        x.place(Findings.LEDGE);
        due("KIND", x.way(0, -1, 1), -4);
        due("FULL", States.twelvePlaces().place(0), -5);
        due("BEGUN", Findings.pair().begin(), -6);
        due("LOST", x.begin(), -7);
        due("IDLE", x.run(1), -8);
        ScreeCourt y = Findings.pair();
        y.lay(0, 30);
        due("SPENT", y.run(1), -9);
        due("MANY", Findings.line(201).list(), -10);
        due("NONE", x.undo(), -11);
        due("ONE_WAY", Findings.pour().many(2), -12);
        due("DEBT", Findings.pair().lay(0, -1), -13);
    }

    /** For each kind (of place 0) each weight, to a place and to each ditch. */
    private static void kindsAndTheirWays() {
        for (int kind = 0; kind < 5; kind++) {
            boolean heavy = kind == 2 || kind == 3;
            for (int weight = -1; weight <= 11; weight++) {
                for (int to = -4; to <= 2; to++) {
                    ScreeCourt x = new ScreeCourt();
                    x.place(kind);
                    x.place(Findings.LEDGE);
                    boolean beyond = weight < 1 || weight > 9 || to == -4 || to == 0 || to == 2;
                    boolean wrongKind = weight != 1 && !heavy || to < 0 && kind != 3;
                    int want = beyond ? Findings.BEYOND : wrongKind ? Findings.KIND : weight;
                    due("kind " + kind + ": way(0, " + to + ", " + weight + ")", x.way(0, to, weight), want);
                    if (to != -4 && to != 2) {
                        due("its weight", x.weight(0, to), Math.max(0, want));
                    }
                }
            }
        }
    }

    private static void severalAreAsOne() {
        ScreeCourt x = new ScreeCourt();
        x.place(Findings.CHUTE);
        x.place(Findings.RIM);
        x.way(0, 1, 2);
        due("load", x.way(0, 1, 3), 5);
        due("weight", x.weight(0, 1), 5);
        x.way(1, 0, 1);
        x.way(1, 0, 4);
        x.way(1, -3, 1);
        due("load", x.way(1, -3, 1), 7);
        due("weight", x.weight(1, -3), 2);
        x.begin();
        due("the sums are two-way", x.twoWay(), 1);
        x.lay(0, 5);
        due("one slide takes all", x.slide(0), 1);
        due("and lays all", x.grains(1), 5);
        due("below the load of 7", x.due(), 0);
        x.lay(1, 2);
        x.slide(1);
        due("to the place", x.grains(0), 5);
        due("to the ditch", x.grains(-3), 2);
        ScreeCourt y = new ScreeCourt();
        y.place(Findings.LEDGE);
        y.place(Findings.RIM);
        y.way(0, 1, 1);
        y.way(0, 1, 1);
        y.way(1, -1, 1);
        y.begin();
        y.manner(4, 0);
        y.lay(0, 6);
        // were 1 twice in the row, 0 would slide only behind both
        due("row 0 1: SPENT", y.run(1), Findings.SPENT);
        due("row 1: SPENT", y.run(1), Findings.SPENT);
        due("row 0 1: SPENT", y.run(1), Findings.SPENT);
        due("0 slid twice", y.odometer(0), 2);
    }

    private static void dueAtTheLoad() {
        ScreeCourt x = Findings.line(3, 4);
        for (int g = 0; g <= 8; g++) {
            due("load 7 and grains " + g, x.due(), g >= 7 ? 1 : 0);
            due("told(3)", x.told(3), g >= 7 ? 0 : 1);
            x.lay(0, 1);
        }
        ScreeCourt heavy = new ScreeCourt();
        heavy.place(Findings.RIM);
        int load = 0;
        for (int i = 0; i < 490; i++) {
            load = heavy.way(0, -1 - i % 3, 9);
        }
        due("a load of many ways", load, 4410);
        heavy.begin();
        heavy.lay(0, 4409);
        due("one below it", heavy.slide(0), Findings.IDLE);
        heavy.lay(0, 1);
        due("at it", heavy.slide(0), 1);
        due("to ditch 0", heavy.grains(-1), 164 * 9);
        due("to ditch 2", heavy.grains(-3), 163 * 9);
        ScreeCourt none = new ScreeCourt();
        none.place(Findings.RIM);
        due("without a load none is due", none.due(), 0);
        due("nor slides", none.slide(0), Findings.IDLE);
    }

    private static void slidesByKind() {
        for (int kind = 0; kind < 5; kind++) {
            boolean atOnce = kind == 1 || kind == 2 || kind == 3;
            for (int g = 1; g <= 9; g++) {
                ScreeCourt x = new ScreeCourt();
                x.place(kind);
                x.place(Findings.RIM);
                x.place(Findings.RIM);
                x.way(0, 1, 1);
                x.way(0, 2, 1);
                x.way(1, -1, 9);
                x.way(2, -1, 9);
                x.begin();
                x.lay(0, g);
                int times = g < 2 ? 0 : atOnce ? g / 2 : 1;
                String which = "kind " + kind + ", grains " + g;
                due(which, x.slide(0), times == 0 ? Findings.IDLE : times);
                due(which + ": what is left", x.grains(0), g - 2 * times);
                due(which + ": at 1", x.grains(1), times);
                due(which + ": at 2", x.grains(2), times);
                due(which + ": odometer", x.odometer(0), times);
            }
        }
    }

    private static void mostGrains() {
        ScreeCourt x = Findings.fan();
        x.manner(1, 0);
        x.lay(0, 3);
        x.lay(1, 4);
        x.lay(2, 4);
        x.lay(3, 8);
        // 3 has the most but is not due; of 1 and 2 the lower one slides, and 3 is due then
        int[] order = {1, 3, 2, 0, 1, 2, 0, 1, 2};
        for (int i = 0; i < order.length; i++) {
            long before = x.odometer(order[i]);
            x.run(1);
            due("the most grains, slide " + i + " is of " + order[i], x.odometer(order[i]), before + 1);
        }
    }

    private static long lot(long seed) {
        return BigInteger.valueOf(seed).multiply(BigInteger.valueOf(1103515245L)).add(BigInteger.valueOf(12345L))
                .mod(BigInteger.valueOf(2147483648L)).longValueExact();
    }

    /** Twelve RIMs that slide once each: of 12 due ones, of 11, and so on to 1. */
    private static void lotsOfAllSizes() {
        int[] seeds = {0, 1, 2, 77, 255, 256, 65536, 1073741823, 1073741824, 2147483646, 2147483647};
        for (int first : seeds) {
            ScreeCourt x = new ScreeCourt();
            for (int p = 0; p < 12; p++) {
                x.place(Findings.RIM);
                x.way(p, -1, 1);
            }
            x.begin();
            x.manner(3, first);
            due("the seed as told", x.told(6), first);
            java.util.List<Integer> dueOnes = new java.util.ArrayList<>();
            for (int p = 0; p < 12; p++) {
                x.lay(p, 1);
                dueOnes.add(p);
            }
            long seed = first;
            while (!dueOnes.isEmpty()) {
                seed = lot(seed);
                int place = dueOnes.remove((int) (seed / 256 % dueOnes.size()));
                due("seed " + first + ": run", x.run(1), dueOnes.isEmpty() ? 1 : Findings.SPENT);
                due("seed " + first + ": the seed", x.told(6), seed);
                due("seed " + first + ": place " + place, x.grains(place), 0);
                due("seed " + first + ": the others", x.due(), dueOnes.size());
            }
        }
    }

    /** Seeds worked out by hand: what is left by 2147483648 at its very ends. */
    private static void lotsAtTheEnds() {
        long[][] seeds = {
            {0, 12345}, {2147483647, 1043980748}, {1, 1103527590}, {2, 59559187}, {1073741824, 1073754169},
        };
        for (long[] s : seeds) {
            ScreeCourt x = Findings.drip();
            x.lay(1, 1);
            x.manner(3, (int) s[0]);
            x.run(1);
            due("the seed behind " + s[0], x.told(6), s[1]);
        }
    }

    /** RIMs with a ditch each, so that who slides shows the row and nothing else moves. */
    private static ScreeCourt apart(int places) {
        ScreeCourt x = new ScreeCourt();
        for (int p = 0; p < places; p++) {
            x.place(Findings.RIM);
            x.way(p, -1, 1);
        }
        x.begin();
        x.manner(4, 0);
        return x;
    }

    private static void slideIs(String which, ScreeCourt x, int place) {
        long before = x.odometer(place);
        x.run(1);
        due(which + ": " + place + " slides", x.odometer(place) > before ? 1 : 0, 1);
    }

    private static void askedInVain() {
        ScreeCourt x = apart(4);
        x.lay(2, 1);
        slideIs("0 and 1 are asked in vain", x, 2);
        x.lay(0, 1);
        x.lay(3, 1);
        slideIs("row 3: 0 is not in it any more", x, 3);
        slideIs("an empty row: all are asked", x, 0);
        x.lay(0, 1);
        due("row 1 2 3 in vain, then all", x.run(5), 1);
        x.lay(0, 1);
        x.lay(1, 1);
        slideIs("row 1 2 3", x, 1);
    }

    private static void askedRowIsFull() {
        ScreeCourt x = new ScreeCourt();
        for (int p = 0; p < 12; p++) {
            x.place(p == 11 ? Findings.RIM : p % 2 == 0 ? Findings.LEDGE : Findings.LOOSE);
        }
        for (int p = 0; p < 12; p++) {
            for (int q = 0; q < 12; q++) {
                if (p != q) {
                    x.way(p, q, 1);
                }
            }
        }
        x.way(11, -1, 1);
        x.begin();
        x.manner(4, 0);
        for (int p = 0; p < 12; p++) {
            x.lay(p, 60);
        }
        // row 0 .. 11: 0 slides, and all its ends are in the row
        slideIs("first", x, 0);
        // row 1 .. 11: LOOSE 1 slides, and 0 comes ahead
        slideIs("second", x, 1);
        // row 0 2 .. 11: LEDGE 0 slides, and 1 comes behind
        slideIs("third", x, 0);
        // row 2 .. 11 1: LEDGE 2 slides, and 0 comes behind
        slideIs("fourth", x, 2);
        // row 3 .. 11 1 0: LOOSE 3 slides, and 2 comes ahead
        slideIs("fifth", x, 3);
        // row 2 4 .. 11 1 0: LEDGE 2 slides, and 3 comes behind
        slideIs("sixth", x, 2);
        // row 4 .. 11 1 0 3
        slideIs("seventh", x, 4);
    }

    /** Ways to ditches bring nothing into the row. */
    private static void askedOfDitches() {
        ScreeCourt x = new ScreeCourt();
        for (int p = 0; p < 3; p++) {
            x.place(Findings.RIM);
        }
        x.way(0, -1, 1);
        x.way(1, -2, 1);
        x.way(1, -3, 1);
        x.way(2, -3, 1);
        x.begin();
        x.manner(4, 0);
        x.lay(1, 2);
        due("0 in vain, 1 slides", x.run(1), 1);
        x.lay(0, 1);
        x.lay(1, 2);
        x.lay(2, 1);
        slideIs("row 2", x, 2);
        x.lay(2, 1);
        slideIs("row empty", x, 0);
        slideIs("row 1 2", x, 1);
        slideIs("row 2", x, 2);
    }

    /** LOOSE 0 with ways to 1, 2 and 3 (told from the highest), which are RIMs with a ditch. */
    private static ScreeCourt loose() {
        ScreeCourt x = new ScreeCourt();
        x.place(Findings.LOOSE);
        for (int p = 1; p < 5; p++) {
            x.place(Findings.RIM);
            x.way(p, -1, 1);
        }
        x.way(0, 3, 1);
        x.way(0, 2, 1);
        x.way(0, 1, 1);
        x.begin();
        x.manner(4, 0);
        return x;
    }

    private static void askedLooseLowestFirst() {
        ScreeCourt x = loose();
        x.lay(4, 1);
        due("row 0 1 2 3 4: only 4 is due", x.run(1), 1);
        x.lay(0, 3);
        x.lay(4, 1);
        slideIs("all are asked", x, 0);
        // 1, 2 and 3 are in the row already
        slideIs("row 1 2 3 4", x, 1);
        slideIs("row 2 3 4", x, 2);
        slideIs("row 3 4", x, 3);
        slideIs("row 4", x, 4);
    }

    /** Places 0, 1 and 2 are taken from the row ahead of LOOSE 3; 4 is in it still. */
    private static void askedLooseAmongThose() {
        ScreeCourt x = new ScreeCourt();
        for (int p = 0; p < 6; p++) {
            x.place(p == 3 ? Findings.LOOSE : Findings.RIM);
        }
        for (int p = 0; p < 6; p++) {
            if (p != 3) {
                x.way(p, -1, 1);
            }
        }
        x.way(3, 5, 1);
        x.way(3, 2, 1);
        x.way(3, 0, 1);
        x.begin();
        x.manner(4, 0);
        x.lay(3, 3);
        x.lay(4, 1);
        slideIs("0, 1 and 2 in vain", x, 3);
        // 0 and 2 come ahead of 4 5, and 5 stays where it is
        slideIs("row 0 2 4 5", x, 0);
        x.lay(0, 1);
        x.lay(1, 1);
        slideIs("row 2 4 5", x, 2);
        slideIs("row 4 5", x, 4);
        slideIs("row 5", x, 5);
        slideIs("all are asked", x, 0);
    }

    /** LOOSE 0 has ways to 1 and to the last place; RIM 1 has one to 0. */
    private static void askedLooseOfTheLast() {
        ScreeCourt x = new ScreeCourt();
        x.place(Findings.LOOSE);
        x.place(Findings.RIM);
        x.place(Findings.RIM);
        x.way(0, 1, 1);
        x.way(0, 2, 1);
        x.way(1, 0, 1);
        x.way(1, -1, 9);
        x.way(2, -1, 1);
        x.begin();
        x.manner(4, 0);
        x.lay(1, 10);
        x.lay(2, 1);
        slideIs("0 in vain", x, 1);
        slideIs("row 2 0", x, 2);
        x.lay(0, 7);
        slideIs("row 0", x, 0);
        slideIs("row 1 2, and 1 is not due", x, 2);
        slideIs("all are asked", x, 0);
    }

    private static void askedByRunAlone() {
        ScreeCourt x = loose();
        x.lay(0, 9);
        x.lay(4, 1);
        due("slide() of 0", x.slide(0), 1);
        slideIs("the row is empty still", x, 0);
        slideIs("row 1 2 3 4", x, 1);
        slideIs("row 2 3 4", x, 2);
        due("slide() of 0", x.slide(0), 1);
        slideIs("row 3 4 still", x, 3);
        slideIs("row 4", x, 4);
        slideIs("all are asked", x, 1);
    }

    private static void askedBehindSpent() {
        ScreeCourt x = loose();
        x.lay(0, 6);
        x.lay(4, 9);
        due("0 slides", x.run(1), Findings.SPENT);
        due("1 and 2 slide", x.run(2), Findings.SPENT);
        due("3 and 4 slide", x.run(2), Findings.SPENT);
        due("all are asked: 0 slides", x.run(1), Findings.SPENT);
        due("0 has none left", x.grains(0), 0);
        due("the other three", x.run(3), 3);
        x.lay(0, 3);
        x.lay(4, 1);
        slideIs("row 4 is left", x, 4);
        slideIs("all are asked", x, 0);
    }

    /**
     * LEDGE 0 has 1000000 grains and a way to RIM 1, whose slide would bring it more; RIM 2 has a
     * ditch. Behind the FULL of 1 the row is 2, and not 2 0 (nor 1 2).
     */
    private static void askedBehindFull() {
        ScreeCourt x = new ScreeCourt();
        x.place(Findings.LEDGE);
        x.place(Findings.RIM);
        x.place(Findings.RIM);
        x.way(0, 1, 1);
        x.way(1, 0, 9);
        x.way(1, -1, 1);
        x.way(2, -2, 1);
        x.begin();
        x.manner(4, 0);
        x.lay(0, 1000000);
        x.lay(1, 19);
        x.lay(2, 1);
        due("0 slides, and 1 is FULL", x.run(9), Findings.FULL);
        due("0 slid", x.odometer(0), 1);
        due("1 has what came", x.grains(1), 20);
        due("1 did not slide", x.odometer(1), 0);
        due("nor did 2", x.odometer(2), 0);
        x.lay(1, -20);
        slideIs("row 2", x, 2);
        x.lay(2, 1);
        slideIs("all are asked", x, 0);
        slideIs("row 1 2, and 1 is not due", x, 2);
        due("what could be undone is the run() as well", x.undo(), 8);
    }

    private static void burningAtTheSum() {
        // weights 5 to the ditch, 3 between 0 and 1, 2 between 1 and 2
        int[][] rows = {
            {3, 2, 0, 1, 0}, {2, 2, 1, 0, 7}, {3, 1, 0, 0, 6}, {3, 2, 1, 1, 0}, {7, 4, 1, 1, 0}, {0, 0, 0, 0, 7},
            {3, 0, 1, 0, 6}, {0, 0, 1, 0, 7}, {2, 4, 1, 0, 7},
        };
        for (int[] row : rows) {
            ScreeCourt x = Findings.line(5, 3, 2);
            for (int p = 0; p < 3; p++) {
                x.lay(p, row[p]);
            }
            String which = "row " + row[0] + " " + row[1] + " " + row[2];
            due(which + " burns", x.burn(), row[3]);
            due(which + ": what does not", x.burnt(-1), row[4]);
        }
        ScreeCourt alone = Findings.line(9);
        due("weights to ditches do not hold a place back", alone.burn(), 1);
        due("it burnt", alone.burnt(0), 0);
    }

    private static void burningLowestFirst() {
        ScreeCourt x = new ScreeCourt();
        for (int p = 0; p < 4; p++) {
            x.place(Findings.RIM);
        }
        int[][] ways = {{0, 3}, {1, 3}, {1, 2}};
        for (int[] w : ways) {
            x.way(w[0], w[1], 1);
            x.way(w[1], w[0], 1);
        }
        x.way(2, -1, 1);
        x.begin();
        x.lay(1, 1);
        x.lay(2, 1);
        x.lay(3, 1);
        due("all burn", x.burn(), 1);
        int[] order = {2, 1, 3, 0};
        for (int k = 0; k < 4; k++) {
            due("burnt(" + k + ")", x.burnt(k), order[k]);
        }
        ScreeCourt apart = new ScreeCourt();
        for (int p = 0; p < 4; p++) {
            apart.place(Findings.RIM);
            apart.way(p, -1, 2);
        }
        apart.way(3, 0, 2);
        apart.way(0, 3, 2);
        apart.begin();
        apart.lay(3, 2);
        apart.burn();
        int[] then = {1, 2, 3, 0};
        for (int k = 0; k < 4; k++) {
            due("the lowest that can: burnt(" + k + ")", apart.burnt(k), then[k]);
        }
    }

    private static void slotsHoldNothing() {
        ScreeCourt x = Findings.pair();
        for (int slot = 0; slot < 8; slot++) {
            due("slot " + slot + " holds nothing", x.bring(slot), Findings.NONE);
            due("slot " + slot + " takes a row of no grains", x.keep(slot), 0);
            due("which is not nothing", x.bring(slot), 0);
        }
        due("none of them came from another", x.told(8), 8);
        for (int slot = 0; slot < 8; slot++) {
            x.lay(0, 1);
            x.keep(slot);
        }
        for (int slot = 0; slot < 8; slot++) {
            due("each slot has its own row", x.bring(slot), slot + 1);
        }
        x.anew();
        for (int slot = 0; slot < 8; slot++) {
            due("anew they hold nothing", x.bring(slot), Findings.NONE);
        }
    }

    /** Weight 3 to the ditch and 2 between: 6 rows come again, and NOUGHT is found by trying each. */
    private static void noughtAndContrary() {
        ScreeCourt x = Findings.line(3, 2);
        int rows = x.list();
        due("rows", rows, 6);
        x.nought(7);
        x.bring(7);
        due("NOUGHT comes again", x.burn(), 1);
        for (int i = 0; i < rows; i++) {
            for (int p = 0; p < 2; p++) {
                x.lay(p, x.listed(i, p) - (int) x.grains(p));
            }
            int kept = x.keep(0);
            due("row " + i + " with NOUGHT: how many", x.plus(0, 7, 1), kept);
            x.bring(1);
            due("row " + i + " with NOUGHT: place 0", x.grains(0), x.listed(i, 0));
            due("row " + i + " with NOUGHT: place 1", x.grains(1), x.listed(i, 1));
            x.contrary(0, 2);
            x.plus(0, 2, 3);
            x.bring(7);
            long[] nought = {x.grains(0), x.grains(1)};
            x.bring(3);
            due("row " + i + " with its CONTRARY: place 0", x.grains(0), nought[0]);
            due("row " + i + " with its CONTRARY: place 1", x.grains(1), nought[1]);
            x.bring(2);
            due("the CONTRARY comes again", x.burn(), 1);
        }
    }
}
