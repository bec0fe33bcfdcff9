/** Promises 16 to 26. */
public final class AgainTest {
    private static final Answers ANSWERS = new Answers("AgainTest");

    public static void main(String[] args) {
        twoWays();
        burning();
        burnFindings();
        slots();
        brings();
        pluses();
        plusIsFull();
        noughts();
        contraries();
        slidingsTooLong();
        counts();
        countFindings();
        lists();
        listOfManyPlaces();
        listLimits();
        ANSWERS.end();
    }

    private static void due(String call, long got, long want) {
        ANSWERS.due(call, got, want);
    }

    private static void grainsAre(String which, ScreeCourt x, int... row) {
        for (int place = 0; place < row.length; place++) {
            due(which + ", grains(" + place + ")", x.grains(place), row[place]);
        }
    }

    private static void layRow(ScreeCourt x, int... row) {
        for (int place = 0; place < row.length; place++) {
            x.lay(place, row[place] - (int) x.grains(place));
        }
    }

    private static void keepRow(ScreeCourt x, int slot, int... row) {
        layRow(x, row);
        x.keep(slot);
    }

    private static void twoWays() {
        due("16: IDLE", new ScreeCourt().twoWay(), Findings.IDLE);
        due("16: weights to ditches are free", Findings.line(3, 2, 4).twoWay(), 1);
        due("16: one way", Findings.pour().twoWay(), 0);
        ScreeCourt x = new ScreeCourt();
        for (int i = 0; i < 3; i++) {
            x.place(Findings.RIM);
            x.way(i, -1, i + 1);
        }
        x.way(0, 1, 1);
        x.way(1, 0, 1);
        x.way(0, 2, 2);
        x.way(2, 0, 1);
        due("16: IDLE", x.twoWay(), Findings.IDLE);
        x.way(2, 0, 1);
        x.way(2, 1, 1);
        x.begin();
        due("16: one of three pairs is not", x.twoWay(), 0);
        ScreeCourt alone = new ScreeCourt();
        alone.place(Findings.RIM);
        alone.way(0, -1, 1);
        alone.begin();
        due("16: a place alone", alone.twoWay(), 1);
    }

    private static void burning() {
        ScreeCourt x = Findings.line(1, 1, 1);
        due("18: ahead of any", x.burnt(-1), 0);
        layRow(x, 1, 1, 0);
        due("17: comes again", x.burn(), 1);
        due("18: none is left", x.burnt(-1), 0);
        for (int k = 0; k < 3; k++) {
            due("18: burnt(" + k + ")", x.burnt(k), k);
        }
        due("18: burnt(3)", x.burnt(3), Findings.NONE);
        due("18: burnt(-2)", x.burnt(-2), Findings.NONE);
        due("18: burnt(MAX)", x.burnt(Integer.MAX_VALUE), Findings.NONE);
        layRow(x, 1, 0, 0);
        due("17: does not", x.burn(), 0);
        due("18: 1 and 2 are left", x.burnt(-1), 6);
        due("18: burnt(0)", x.burnt(0), 0);
        due("18: burnt(1)", x.burnt(1), Findings.NONE);
        layRow(x, 0, 1, 0);
        due("17: nothing burns", x.burn(), 0);
        due("18: all are left", x.burnt(-1), 7);
        due("18: burnt(0)", x.burnt(0), Findings.NONE);
        ScreeCourt y = triangle();
        layRow(y, 1, 1, 2);
        due("17: comes again", y.burn(), 1);
        due("18: 2 first", y.burnt(0), 2);
        due("18: then the lowest", y.burnt(1), 0);
        due("18: then the last", y.burnt(2), 1);
        layRow(y, 0, 1, 2);
        due("17: comes again", y.burn(), 1);
        due("18: 2 first", y.burnt(0), 2);
        due("18: 0 only behind 1", y.burnt(1), 1);
        due("18: and now 0", y.burnt(2), 0);
    }

    /** Three RIMs, each with weight 1 to the others and to a ditch. */
    private static ScreeCourt triangle() {
        ScreeCourt x = new ScreeCourt();
        for (int i = 0; i < 3; i++) {
            x.place(Findings.RIM);
        }
        for (int i = 0; i < 3; i++) {
            x.way(i, (i + 1) % 3, 1);
            x.way(i, (i + 2) % 3, 1);
            x.way(i, -1 - i, 1);
        }
        x.begin();
        return x;
    }

    private static void burnFindings() {
        due("17: IDLE", new ScreeCourt().burn(), Findings.IDLE);
        ScreeCourt x = Findings.line(1, 1);
        x.lay(0, 1);
        x.burn();
        x.lay(0, 5);
        due("17: does not stand", x.burn(), Findings.IDLE);
        due("18: the burn of before", x.burnt(0), 0);
        due("18: and what was left", x.burnt(-1), 0);
        ScreeCourt y = Findings.pour();
        due("17: ONE_WAY", y.burn(), Findings.ONE_WAY);
        y.lay(0, 1);
        due("17: IDLE ahead of ONE_WAY", y.burn(), Findings.IDLE);
    }

    private static void slots() {
        ScreeCourt idle = new ScreeCourt();
        due("19: BEYOND", idle.keep(-1), Findings.BEYOND);
        due("19: BEYOND", idle.keep(8), Findings.BEYOND);
        due("19: IDLE", idle.keep(0), Findings.IDLE);
        due("20: BEYOND", idle.bring(8), Findings.BEYOND);
        due("20: NONE", idle.bring(7), Findings.NONE);
        ScreeCourt x = Findings.pair();
        due("19: nothing is a row, too", x.keep(0), 0);
        due("20: and is brought", x.bring(0), 0);
        layRow(x, 1000000, 1000000);
        due("19: one that does not stand", x.keep(7), 2000000);
        layRow(x, 1, 2);
        due("19: keep(7)", x.keep(7), 3);
        due("19: keep(6)", x.keep(6), 3);
        due("20: NONE", x.bring(5), Findings.NONE);
        due("20: BEYOND", x.bring(-1), Findings.BEYOND);
    }

    private static void brings() {
        ScreeCourt x = Findings.pair();
        keepRow(x, 2, 7, 1);
        x.run(10);
        long ditch = x.grains(-1);
        long slid = x.odometer(0);
        due("20: undo is there", x.undo() >= 0 ? 1 : 0, 1);
        x.run(10);
        due("20: bring(2)", x.bring(2), 8);
        grainsAre("20: brought", x, 7, 1);
        due("20: ditches stay", x.grains(-1), ditch);
        due("20: the odometer stays", x.odometer(0), slid);
        due("34: nothing can be undone", x.undo(), Findings.NONE);
        x.lay(0, 1);
        due("20: the slot has its own row", x.bring(2), 8);
    }

    private static void pluses() {
        ScreeCourt x = Findings.pair();
        keepRow(x, 0, 2, 1);
        keepRow(x, 1, 2, 2);
        x.lay(0, 3);
        // 4 3: 0 slides to 1 5; 1 slides to 3 2; 0 slides to 0 4; 1 slides to 2 1
        due("21: plus(0, 1, 2)", x.plus(0, 1, 2), 3);
        grainsAre("21: the slope stays", x, 5, 2);
        due("21: and its ditches", x.grains(-1), 0);
        due("21: and its odometer", x.odometer(0), 0);
        due("34: and what can be undone", x.undo(), 4);
        x.bring(2);
        grainsAre("21: what came", x, 2, 1);
        due("21: into itself", x.plus(1, 1, 1), 4);
        x.bring(1);
        grainsAre("21: twice", x, 2, 2);
        // 4 2: 0 slides to 1 4; 1 slides to 3 1; 0 slides to 0 3; 1 slides to 2 0
        due("21: the third slot may be new", x.plus(2, 2, 7), 2);
        ScreeCourt one = Findings.pour();
        keepRow(one, 0, 3, 8);
        due("21: also of a one-way slope", one.plus(0, 0, 1), 4);
        due("21: NONE", x.plus(0, 4, 0), Findings.NONE);
        due("21: NONE", x.plus(4, 0, 0), Findings.NONE);
        int[][] beyond = {{-1, 0, 0}, {8, 0, 0}, {0, -1, 0}, {0, 8, 0}, {0, 0, -1}, {0, 0, 8}, {4, 4, 8}};
        for (int[] s : beyond) {
            due("21: BEYOND", x.plus(s[0], s[1], s[2]), Findings.BEYOND);
        }
        due("21: a new object", new ScreeCourt().plus(0, 0, 0), Findings.NONE);
    }

    private static void plusIsFull() {
        ScreeCourt x = Findings.drip();
        keepRow(x, 1, 0, 0);
        keepRow(x, 0, 19999, 0);
        due("21: 20000 slides", x.plus(0, 1, 2), 0);
        keepRow(x, 0, 20000, 0);
        due("21: 20001 slides", x.plus(0, 1, 3), Findings.FULL);
        due("21: nothing came", x.bring(3), Findings.NONE);
        ScreeCourt y = Findings.pour();
        keepRow(y, 0, 500000, 0);
        due("21: 1000000 is not too much", y.plus(0, 0, 1), 1);
        keepRow(y, 0, 500001, 0);
        due("21: laid together too much", y.plus(0, 0, 1), Findings.FULL);
        keepRow(y, 0, 0, 500001);
        due("21: of the other one, too", y.plus(0, 0, 1), Findings.FULL);
        keepRow(y, 0, 300000, 300000);
        due("21: too much by a slide", y.plus(0, 0, 1), Findings.FULL);
        due("21: the slot stays", y.bring(1), 1);
    }

    private static void noughts() {
        ScreeCourt x = Findings.line(1, 1, 1);
        due("22: only one row comes again", x.nought(3), 2);
        x.bring(3);
        grainsAre("22: it is that", x, 1, 1, 0);
        ScreeCourt y = triangle();
        due("22: of the triangle", y.nought(0), 6);
        y.bring(0);
        grainsAre("22: of the triangle", y, 2, 2, 2);
        due("22: BEYOND", y.nought(8), Findings.BEYOND);
        due("22: BEYOND", y.nought(-1), Findings.BEYOND);
        due("22: IDLE", new ScreeCourt().nought(0), Findings.IDLE);
        due("22: BEYOND ahead of IDLE", new ScreeCourt().nought(8), Findings.BEYOND);
        due("22: ONE_WAY", Findings.pour().nought(0), Findings.ONE_WAY);
        ScreeCourt z = Findings.line(4);
        z.lay(0, 9);
        due("22: a place alone", z.nought(0), 0);
        grainsAre("22: the slope stays", z, 9);
    }

    private static void contraries() {
        ScreeCourt x = Findings.line(7);
        for (int g = 0; g < 7; g++) {
            keepRow(x, 0, g);
            due("23: modulo 7, of " + g, x.contrary(0, 1), (7 - g) % 7);
        }
        keepRow(x, 0, 700003);
        due("23: of one that does not stand", x.contrary(0, 0), 4);
        due("23: it may come to the slot itself", x.bring(0), 4);
        due("23: NONE", x.contrary(5, 0), Findings.NONE);
        due("23: BEYOND", x.contrary(8, 0), Findings.BEYOND);
        due("23: BEYOND", x.contrary(0, 8), Findings.BEYOND);
        due("23: BEYOND ahead of NONE", x.contrary(5, -1), Findings.BEYOND);
        ScreeCourt y = Findings.pour();
        due("23: NONE ahead of ONE_WAY", y.contrary(0, 0), Findings.NONE);
        y.keep(0);
        due("23: ONE_WAY", y.contrary(0, 0), Findings.ONE_WAY);
    }

    private static void slidingsTooLong() {
        int[] weights = new int[12];
        java.util.Arrays.fill(weights, 99);
        weights[0] = 1;
        ScreeCourt x = Findings.line(weights);
        x.keep(0);
        due("22: FULL", x.nought(1), Findings.FULL);
        due("22: nothing came", x.bring(1), Findings.NONE);
        due("23: FULL by A", x.contrary(0, 1), Findings.FULL);
        due("23: nothing came", x.bring(1), Findings.NONE);
        ScreeCourt y = new ScreeCourt();
        y.place(Findings.RIM);
        y.place(Findings.LEDGE);
        y.way(0, 1, 1);
        y.way(0, -1, 1);
        y.way(1, 0, 1);
        y.begin();
        keepRow(y, 0, 0, 30000);
        due("22: A is no matter there", y.nought(1), 1);
        due("23: FULL by the row itself", y.contrary(0, 2), Findings.FULL);
        keepRow(y, 0, 1000000, 1000000);
        due("23: FULL by too many grains", y.contrary(0, 2), Findings.FULL);
        due("23: nothing came", y.bring(2), Findings.NONE);
    }

    private static void counts() {
        ScreeCourt x = Findings.pair();
        due("24: 5 modulo 101", x.many(101), 5);
        due("24: 5 modulo 2", x.many(2), 1);
        due("24: 5 modulo 3", x.many(3), 2);
        due("24: 5 modulo 5", x.many(5), 0);
        due("24: 5 modulo 30011", x.many(30011), 5);
        due("24: 16 of the triangle", triangle().many(17), 16);
        int[] weights = new int[12];
        java.util.Arrays.fill(weights, 99);
        weights[0] = 1;
        long power = 1;
        for (int i = 0; i < 11; i++) {
            power = power * 99 % 30011;
        }
        due("24: 99 to the 11th", Findings.line(weights).many(30011), power);
        due("24: a zero on the way down needs a swap", Findings.line(3, 5, 7).many(2), 1);
        due("24: 105 modulo 103", Findings.line(3, 5, 7).many(103), 2);
        due("24: loads of 0 modulo 2", Findings.line(1, 3, 1).many(2), 1);
    }

    private static void countFindings() {
        ScreeCourt x = Findings.pair();
        for (int p : new int[] {-7, 0, 1, 4, 9, 15, 25, 169, 29929, 30007, 30012, 30013, 30029, Integer.MIN_VALUE,
            Integer.MAX_VALUE}) {
            due("24: many(" + p + ")", x.many(p), Findings.BEYOND);
        }
        due("24: a prime below the last", x.many(29989), 5);
        due("24: IDLE", new ScreeCourt().many(7), Findings.IDLE);
        due("24: BEYOND ahead of IDLE", new ScreeCourt().many(8), Findings.BEYOND);
        due("24: ONE_WAY", Findings.pour().many(7), Findings.ONE_WAY);
        due("24: BEYOND ahead of ONE_WAY", Findings.pour().many(6), Findings.BEYOND);
    }

    private static void lists() {
        ScreeCourt x = Findings.pair();
        due("26: ahead of any", x.listed(0, 0), Findings.NONE);
        x.lay(0, 100);
        due("25: list(), also when it does not stand", x.list(), 5);
        due("35: told(7)", x.told(7), 5);
        int[][] rows = {{0, 2}, {1, 2}, {2, 0}, {2, 1}, {2, 2}};
        for (int i = 0; i < rows.length; i++) {
            for (int place = 0; place < 2; place++) {
                due("26: listed(" + i + ", " + place + ")", x.listed(i, place), rows[i][place]);
            }
        }
        due("26: NONE", x.listed(5, 0), Findings.NONE);
        due("26: NONE", x.listed(-1, 0), Findings.NONE);
        due("26: NONE ahead of BEYOND", x.listed(5, 2), Findings.NONE);
        due("26: BEYOND", x.listed(0, 2), Findings.BEYOND);
        due("26: BEYOND", x.listed(4, -1), Findings.BEYOND);
        due("25: IDLE", new ScreeCourt().list(), Findings.IDLE);
        due("25: ONE_WAY", Findings.pour().list(), Findings.ONE_WAY);
    }

    private static void listOfManyPlaces() {
        int[] weights = {2, 1, 9, 1, 1, 1, 1, 3, 1, 1, 1, 3};
        due("25: 2 * 9 * 3 * 3 rows", Findings.line(weights).list(), 162);
        int[] before = null;
        for (int i = 0; i < 162; i++) {
            ScreeCourt x = Findings.line(weights);
            x.list();
            int[] row = new int[12];
            for (int place = 0; place < 12; place++) {
                row[place] = x.listed(i, place);
            }
            layRow(x, row);
            due("25: row " + i + " comes again", x.burn(), 1);
            due("25: row " + i + " is in order", before == null || java.util.Arrays.compare(before, row) < 0 ? 1 : 0, 1);
            before = row;
        }
    }

    private static void listLimits() {
        due("25: 200 rows", Findings.line(8, 5, 5).list(), 200);
        ScreeCourt x = Findings.line(67, 3);
        due("25: 201 rows", x.list(), Findings.MANY);
        due("35: told(7)", x.told(7), 0);
        due("26: none is listed", x.listed(0, 0), Findings.NONE);
        due("25: 200 of one place", Findings.line(200).list(), 200);
        due("25: 201 of one place", Findings.line(201).list(), Findings.MANY);
        ScreeCourt y = Findings.line(8, 5, 5);
        y.list();
        due("26: the last row", y.listed(199, 0), 12);
        due("26: the last row", y.listed(199, 1), 9);
        due("26: the last row", y.listed(199, 2), 4);
        due("26: NONE", y.listed(200, 0), Findings.NONE);
    }
}
