import java.math.BigInteger;

/** Promises 16 to 26: at each number that is named, the last input that is still taken and the first that is not. */
public final class AgainEdgesTest {
    private static final Answers ANSWERS = new Answers("AgainEdgesTest");
    private static final int MAX = Integer.MAX_VALUE;
    private static final int MIN = Integer.MIN_VALUE;
    private static final int MILLION = 1000000;

    /** Lines whose A takes 20000 slides, and 20001; the sliding behind it takes far fewer. */
    private static final int[] A_JUST_FITS = {1, 5, 1, 1, 37, 1, 17, 45, 29, 34, 40, 54};
    private static final int[] A_ONE_TOO_MANY = {1, 55, 1, 1, 9, 63, 29, 46, 53, 81, 4};
    /** Lines on which twice what is left of A takes 20000 slides, and 20001; A takes far fewer. */
    private static final int[] TWICE_JUST_FITS = {1, 38, 28, 84, 22, 69, 40, 90, 78, 50, 66};
    private static final int[] TWICE_ONE_TOO_MANY = {1, 89, 89, 89, 89, 89, 89, 89, 89, 81};

    public static void main(String[] args) {
        twoWayByOnePair();
        burnsOfTwelve();
        burnAtTheLoad();
        burntAheadAndBehind();
        slots();
        bringLeaves();
        plusBySlides();
        plusByGrains();
        plusLeaves();
        slidesOfTheseLines();
        noughtBySlides();
        contraryByA();
        contraryByTheRow();
        contraryByTwice();
        contraryByGrains();
        primes();
        countsOfTwelve();
        listLimits();
        listOfTwelve();
        listedLatest();
        ANSWERS.end();
    }

    private static void due(String call, long got, long want) {
        ANSWERS.due(call, got, want);
    }

    private static void layRow(ScreeCourt x, int... row) {
        for (int p = 0; p < row.length; p++) {
            x.lay(p, row[p] - (int) x.grains(p));
        }
    }

    private static void keepRow(ScreeCourt x, int slot, int... row) {
        layRow(x, row);
        x.keep(slot);
    }

    /** Of twelve places each pair in turn has a weight one way that it has not the other way. */
    private static void twoWayByOnePair() {
        for (int p = 0; p < 12; p++) {
            for (int q = 0; q < 12; q++) {
                ScreeCourt x = new ScreeCourt();
                for (int i = 0; i < 12; i++) {
                    x.place(Findings.RIM);
                    x.way(i, -1 - i % 3, 1 + i % 9);
                }
                x.way(3, 8, 2);
                x.way(8, 3, 2);
                if (p != q) {
                    x.way(p, q, 1);
                }
                x.begin();
                due("16: " + p + " to " + q, x.twoWay(), p == q ? 1 : 0);
            }
        }
    }

    private static void burnsOfTwelve() {
        ScreeCourt x = Findings.line(1, 1, 1, 1, 1, 1, 1, 1, 1, 1, 1, 1);
        due("18: ahead of any", x.burnt(-1), 0);
        due("17: nothing burns", x.burn(), 0);
        due("18: all twelve are left", x.burnt(-1), 4095);
        due("18: none burnt", x.burnt(0), Findings.NONE);
        for (int p = 0; p < 11; p++) {
            x.lay(p, 1);
        }
        due("17: all burn", x.burn(), 1);
        due("18: none is left", x.burnt(-1), 0);
        for (int k = 0; k < 12; k++) {
            due("18: burnt(" + k + ")", x.burnt(k), k);
        }
        due("18: burnt(12)", x.burnt(12), Findings.NONE);
        due("18: burnt(-2)", x.burnt(-2), Findings.NONE);
        due("18: burnt(MIN)", x.burnt(MIN), Findings.NONE);
        due("18: burnt(MAX)", x.burnt(MAX), Findings.NONE);
        x.lay(10, -1);
        due("17: not the last two", x.burn(), 0);
        due("18: their bits", x.burnt(-1), 1024 + 2048);
        due("18: ten burnt", x.burnt(9), 9);
        due("18: and no more", x.burnt(10), Findings.NONE);
    }

    private static void burnAtTheLoad() {
        ScreeCourt x = Findings.line(2, 3);
        x.lay(0, 4);
        x.lay(1, 2);
        due("17: one below the loads", x.burn(), 1);
        x.lay(1, 1);
        due("17: at a load it does not stand", x.burn(), Findings.IDLE);
        x.lay(1, -1);
        x.lay(0, 1);
        due("17: nor at the other", x.burn(), Findings.IDLE);
    }

    private static void burntAheadAndBehind() {
        due("18: not begun, bits", new ScreeCourt().burnt(-1), 0);
        due("18: not begun, the first", new ScreeCourt().burnt(0), Findings.NONE);
        ScreeCourt x = Findings.line(2, 3, 1);
        x.lay(0, 3);
        x.burn();
        due("18: 1 and 2 are left", x.burnt(-1), 6);
        x.lay(1, 900);
        due("17: IDLE", x.burn(), Findings.IDLE);
        due("18: the latest burn() stays", x.burnt(-1), 6);
        due("18: and who burnt", x.burnt(0), 0);
        x.run(5000);
        x.reset();
        due("18: also behind other acts", x.burnt(-1), 6);
        x.anew();
        due("18: not behind anew()", x.burnt(-1), 0);
        due("18: nor who burnt", x.burnt(0), Findings.NONE);
    }

    private static void slots() {
        ScreeCourt x = Findings.pair();
        x.lay(0, 2);
        for (int slot : new int[] {-1, 8, MIN, MAX}) {
            due("19: keep(" + slot + ")", x.keep(slot), Findings.BEYOND);
            due("20: bring(" + slot + ")", x.bring(slot), Findings.BEYOND);
            due("22: nought(" + slot + ")", x.nought(slot), Findings.BEYOND);
            due("21: plus, the first", x.plus(slot, 0, 0), Findings.BEYOND);
            due("21: plus, the second", x.plus(0, slot, 0), Findings.BEYOND);
            due("21: plus, the third", x.plus(0, 0, slot), Findings.BEYOND);
            due("23: contrary, the first", x.contrary(slot, 0), Findings.BEYOND);
            due("23: contrary, the second", x.contrary(0, slot), Findings.BEYOND);
        }
        for (int slot : new int[] {0, 7}) {
            int other = 7 - slot;
            due("19: keep(" + slot + ")", x.keep(slot), 2);
            due("20: bring(" + slot + ")", x.bring(slot), 2);
            due("21: plus(" + slot + ")", x.plus(slot, slot, other), 3);
            due("20: bring(" + other + ")", x.bring(other), 3);
            due("22: nought(" + other + ")", x.nought(other), 4);
            due("23: contrary(" + other + ")", x.contrary(other, slot), 4);
            due("20: bring(" + slot + ")", x.bring(slot), 4);
            layRow(x, 2, 0);
        }
    }

    private static void bringLeaves() {
        ScreeCourt x = States.rich(3, 1, 2, 3);
        long[] before = {x.grains(-1), x.grains(-2), x.grains(-3), x.odometer(0), x.odometer(1), x.odometer(2),
            x.odometer(3), x.told(6), x.told(5), x.told(7), x.burnt(-1), x.told(0)};
        x.bring(5);
        long[] then = {x.grains(-1), x.grains(-2), x.grains(-3), x.odometer(0), x.odometer(1), x.odometer(2),
            x.odometer(3), x.told(6), x.told(5), x.told(7), x.burnt(-1), x.told(0)};
        for (int i = 0; i < before.length; i++) {
            due("20: number " + i + " stays", then[i], before[i]);
        }
        due("20: the row is there", x.grains(0) * 1000 + x.grains(1) * 100 + x.grains(2) * 10 + x.grains(3), 2901);
        due("12: the manner stays", x.manner(0, 0), 3);
    }

    private static void plusBySlides() {
        ScreeCourt x = Findings.drip();
        keepRow(x, 1, 0, 0);
        keepRow(x, 0, 19999, 0);
        due("21: 20000 slides", x.plus(0, 1, 2), 0);
        due("21: whichever is first", x.plus(1, 0, 2), 0);
        keepRow(x, 0, 20000, 0);
        due("21: 20001 slides", x.plus(0, 1, 2), Findings.FULL);
        due("21: whichever is first", x.plus(1, 0, 2), Findings.FULL);
        keepRow(x, 0, 10000, 0);
        keepRow(x, 1, 9999, 0);
        due("21: 20000 slides by both", x.plus(0, 1, 2), 0);
        keepRow(x, 1, 10000, 0);
        due("21: 20001 slides by both", x.plus(0, 1, 2), Findings.FULL);
        keepRow(x, 0, 0, MILLION);
        keepRow(x, 1, 0, 0);
        due("21: a RIM at once is one slide", x.plus(0, 1, 2), 0);
    }

    private static void plusByGrains() {
        // 1 is laid together, and then 0 slides
        int[][] rows = {
            {0, 500000, 0, 500000, 1}, {0, 500000, 0, 500001, 0}, {500000, 0, 500000, 0, 1},
            {500001, 0, 500000, 0, 0}, {0, MILLION, 0, 0, 1}, {0, MILLION, 0, 1, 0}, {0, MILLION, 0, MILLION, 0},
            {MILLION, 0, MILLION, 0, 0}, {1, 499999, 0, 500000, 1}, {1, 500000, 0, 500000, 0},
            {5, 500000, 4, 499991, 1}, {5, 500000, 5, 499991, 0}, {300000, 400000, 200000, 100000, 1},
            {300000, 400000, 200000, 100001, 0},
        };
        for (int[] r : rows) {
            ScreeCourt x = Findings.pour();
            keepRow(x, 0, r[0], r[1]);
            keepRow(x, 1, r[2], r[3]);
            int left = (r[0] + r[1] + r[2] + r[3]) % 9;
            String which = "21: " + r[0] + " " + r[1] + " with " + r[2] + " " + r[3];
            due(which, x.plus(0, 1, 2), r[4] == 1 ? left : Findings.FULL);
            due(which + ", what came", x.bring(2), r[4] == 1 ? left : Findings.NONE);
        }
    }

    /** The slope, its ditches, its odometer and what can be undone are as they were. */
    private static void plusLeaves() {
        for (int manner = 0; manner < 5; manner++) {
            ScreeCourt x = States.rich(manner, 4, 5);
            ScreeCourt plain = States.rich(manner, 4, 5);
            due("21: plus()", x.plus(0, 5, 7) >= 0 ? 1 : 0, 1);
            due("22: nought()", x.nought(7) >= 0 ? 1 : 0, 1);
            due("23: contrary()", x.contrary(5, 7) >= 0 ? 1 : 0, 1);
            for (int left = 5; left >= 0; left--) {
                for (int p = -3; p < 4; p++) {
                    due("21: grains(" + p + ")", x.grains(p), plain.grains(p));
                    due("21: odometer(" + p + ")", x.odometer(p), plain.odometer(p));
                }
                due("21: the seed", x.told(6), plain.told(6));
                due("21: undo", x.undo(), left);
                plain.undo();
            }
            for (int slot = 0; slot < 7; slot++) {
                due("21: slot " + slot, x.bring(slot), plain.bring(slot));
            }
        }
    }

    /** By run() in steps of 5000: that these lines are as they are said to be. */
    private static void slidesOfTheseLines() {
        due("A just fits", slidesOfA(Findings.line(A_JUST_FITS), A_JUST_FITS), 20000);
        due("A has one too many", slidesOfA(Findings.line(A_ONE_TOO_MANY), A_ONE_TOO_MANY), 20001);
        due("A of the third is no matter", slidesOfA(Findings.line(TWICE_JUST_FITS), TWICE_JUST_FITS), 14133);
        due("A of the fourth is no matter", slidesOfA(Findings.line(TWICE_ONE_TOO_MANY), TWICE_ONE_TOO_MANY), 13720);
        due("twice just fits", slidesOfTwice(TWICE_JUST_FITS), 20000);
        due("twice has one too many", slidesOfTwice(TWICE_ONE_TOO_MANY), 20001);
    }

    private static int loadOf(int[] line, int p) {
        return line[p] + (p + 1 < line.length ? line[p + 1] : 0);
    }

    private static int slides(ScreeCourt x) {
        int all = 0;
        int done = x.run(5000);
        for (int i = 0; i < 10 && done == Findings.SPENT; i++) {
            all += 5000;
            done = x.run(5000);
        }
        return all + done;
    }

    private static int slidesOfA(ScreeCourt x, int[] line) {
        for (int p = 0; p < line.length; p++) {
            x.lay(p, 2 * (loadOf(line, p) - 1));
        }
        return slides(x);
    }

    private static int slidesOfTwice(int[] line) {
        ScreeCourt x = Findings.line(line);
        slidesOfA(x, line);
        for (int p = 0; p < line.length; p++) {
            int left = 2 * (loadOf(line, p) - 1) - (int) x.grains(p);
            x.lay(p, 2 * left - (int) x.grains(p));
        }
        return slides(x);
    }

    private static void noughtBySlides() {
        ScreeCourt fits = Findings.line(A_JUST_FITS);
        int grains = fits.nought(0);
        due("22: 20000 slides", grains > 0 ? 1 : 0, 1);
        due("22: it came", fits.bring(0), grains);
        due("22: it comes again", fits.burn(), 1);
        due("21: it is NOUGHT", fits.plus(0, 0, 1), grains);
        ScreeCourt not = Findings.line(A_ONE_TOO_MANY);
        due("22: 20001 slides", not.nought(0), Findings.FULL);
        due("22: nothing came", not.bring(0), Findings.NONE);
    }

    /** Of a row that is as full as it may be, the third sliding is short. */
    private static void contraryByA() {
        for (int[] line : new int[][] {A_JUST_FITS, A_ONE_TOO_MANY}) {
            ScreeCourt x = Findings.line(line);
            for (int p = 0; p < line.length; p++) {
                x.lay(p, loadOf(line, p) - 1);
            }
            x.keep(0);
            int grains = x.contrary(0, 1);
            if (line == A_JUST_FITS) {
                due("23: A of 20000 slides", grains > 0 ? 1 : 0, 1);
                x.bring(1);
                due("23: it comes again", x.burn(), 1);
            } else {
                due("23: A of 20001 slides", grains, Findings.FULL);
                due("23: nothing came", x.bring(1), Findings.NONE);
            }
        }
    }

    /** RIM 0 with weight 1 to a ditch and weight 1 to and from LEDGE 1; only the row 1 0 comes again. */
    private static void contraryByTheRow() {
        int[][] rows = {{2, 6666, 20000}, {1, 6667, 20001}, {0, 6667, 19999}, {0, 6668, 20002}};
        for (int[] r : rows) {
            ScreeCourt x = new ScreeCourt();
            x.place(Findings.RIM);
            x.place(Findings.LEDGE);
            x.way(0, 1, 1);
            x.way(0, -1, 1);
            x.way(1, 0, 1);
            x.begin();
            keepRow(x, 0, r[0], r[1]);
            due("23: the row's own slides", slides(x), r[2]);
            int findings = x.told(8);
            due("23: of a row of " + r[2] + " slides", x.contrary(0, 1), r[2] <= 20000 ? 1 : Findings.FULL);
            due("35: FULL is counted", x.told(8) - findings, r[2] <= 20000 ? 0 : 1);
            due("23: what came", x.bring(1), r[2] <= 20000 ? 1 : Findings.NONE);
            keepRow(x, 2, 0, 0);
            due("21: such a row and none", x.plus(0, 2, 3), r[2] <= 20000 ? 1 : Findings.FULL);
        }
    }

    private static void contraryByTwice() {
        ScreeCourt fits = Findings.line(TWICE_JUST_FITS);
        fits.keep(0);
        int nought = fits.nought(2);
        due("23: twice in 20000 slides", fits.contrary(0, 1), nought);
        due("23: the contrary of nothing at all is NOUGHT", fits.bring(1), nought);
        ScreeCourt not = Findings.line(TWICE_ONE_TOO_MANY);
        not.keep(0);
        due("22: NOUGHT is not FULL there", not.nought(2) > 0 ? 1 : 0, 1);
        due("23: twice in 20001 slides", not.contrary(0, 1), Findings.FULL);
        due("35: FULL is counted", not.told(8), 1);
        due("23: nothing came", not.bring(1), Findings.NONE);
    }

    /** On the pair 300000 slides of 0 bring 600000 grains to 1. */
    private static void contraryByGrains() {
        for (int over = 0; over < 2; over++) {
            ScreeCourt x = Findings.pair();
            keepRow(x, 0, 900000, 400000 + over);
            int grains = x.contrary(0, 1);
            if (over == 1) {
                due("23: 1000001 grains by a slide", grains, Findings.FULL);
                due("23: nothing came", x.bring(1), Findings.NONE);
            } else {
                due("23: 1000000 grains by a slide", grains > 0 ? 1 : 0, 1);
                keepRow(x, 2, 0, 0);
                x.plus(0, 2, 3);
                due("23: with what came of the row it is NOUGHT", x.plus(1, 3, 4), 4);
                x.bring(4);
                due("23: NOUGHT is 2 2", x.grains(0), 2);
            }
        }
        ScreeCourt one = Findings.line(1);
        keepRow(one, 0, MILLION);
        due("23: a row at the limit", one.contrary(0, 1), 0);
    }

    /** Every number from below 2 to beyond 30011: a call for each, on courts of at most 512 calls. */
    private static void primes() {
        ScreeCourt x = Findings.line(7, 11, 13);
        int calls = 0;
        for (int p = -20; p <= 30100; p++) {
            if (calls == 400) {
                x = Findings.line(7, 11, 13);
                calls = 0;
            }
            boolean prime = p >= 2 && p <= 30011 && BigInteger.valueOf(p).isProbablePrime(40);
            due("24: many(" + p + ")", x.many(p), prime ? 1001 % p : Findings.BEYOND);
            calls++;
        }
        due("24: 30011 is one", x.many(30011), 1001);
        due("24: MAX, which is prime, too", x.many(MAX), Findings.BEYOND);
        due("24: MIN", x.many(MIN), Findings.BEYOND);
        due("24: 65537", x.many(65537), Findings.BEYOND);
    }

    /** All twelve are joined with weight 1 and have weight 1 to a ditch: 13 to the 11th rows. */
    private static void countsOfTwelve() {
        ScreeCourt x = new ScreeCourt();
        for (int p = 0; p < 12; p++) {
            x.place(Findings.RIM);
        }
        for (int p = 0; p < 12; p++) {
            x.way(p, -1, 1);
            for (int q = 0; q < 12; q++) {
                if (p != q) {
                    x.way(p, q, 1);
                }
            }
        }
        x.begin();
        BigInteger rows = BigInteger.valueOf(13).pow(11);
        for (int p : new int[] {2, 3, 5, 7, 11, 13, 17, 101, 9973, 29989, 30011}) {
            due("24: modulo " + p, x.many(p), rows.mod(BigInteger.valueOf(p)).longValue());
        }
        due("25: far too many", x.list(), Findings.MANY);
        due("24: one place", Findings.line(5).many(7), 5);
        due("24: one place, modulo its load", Findings.line(5).many(5), 0);
        due("24: only one row", Findings.line(1).many(2), 1);
    }

    private static void listLimits() {
        int[][] lines = {
            {1, 1}, {199, 199}, {200, 200}, {201, 0}, {202, 0},
        };
        for (int[] l : lines) {
            ScreeCourt x = Findings.line(l[0]);
            due("25: " + l[0] + " rows", x.list(), l[1] == 0 ? Findings.MANY : l[1]);
            due("35: rows", x.told(7), l[1]);
            due("26: the first", x.listed(0, 0), l[1] == 0 ? Findings.NONE : 0);
            due("26: the last", x.listed(l[0] - 1, 0), l[1] == 0 ? Findings.NONE : l[0] - 1);
            due("26: behind the last", x.listed(l[0], 0), Findings.NONE);
            due("26: ahead of the first", x.listed(-1, 0), Findings.NONE);
            due("26: MIN", x.listed(MIN, 0), Findings.NONE);
            due("26: MAX", x.listed(MAX, 0), Findings.NONE);
            due("26: place 1", x.listed(0, 1), l[1] == 0 ? Findings.NONE : Findings.BEYOND);
            due("26: place -1", x.listed(0, -1), l[1] == 0 ? Findings.NONE : Findings.BEYOND);
        }
    }

    private static void listOfTwelve() {
        int[] not = {67, 1, 1, 1, 1, 1, 1, 3, 1, 1, 1, 1};
        due("25: 201 rows of twelve places", Findings.line(not).list(), Findings.MANY);
        int[] fits = {8, 1, 5, 1, 1, 1, 5, 1, 1, 1, 1, 1};
        ScreeCourt x = Findings.line(fits);
        due("25: 200 rows of twelve places", x.list(), 200);
        due("26: place 11", x.listed(199, 11), 0);
        due("26: place 12", x.listed(199, 12), Findings.BEYOND);
        due("26: row 200", x.listed(200, 11), Findings.NONE);
        for (int i = 0; i < 200; i++) {
            if (i % 30 == 0) {
                x = Findings.line(fits);
                x.list();
            }
            // a place of a line needs as many grains as its weight to the next; then all up to its load are free
            int digits = i;
            for (int p = 11; p >= 0; p--) {
                int least = p < 11 ? fits[p + 1] : 0;
                due("25: row " + i + ", place " + p, x.listed(i, p), least + digits % fits[p]);
                digits /= fits[p];
            }
        }
    }

    private static void listedLatest() {
        ScreeCourt x = Findings.pair();
        due("35: ahead of any", x.told(7), 0);
        x.list();
        x.lay(0, 900);
        due("25: the same again, whatever the grains", x.list(), 5);
        due("35: rows", x.told(7), 5);
        due("26: a row", x.listed(1, 0), 1);
        x.anew();
        due("35: behind anew()", x.told(7), 0);
        due("26: behind anew()", x.listed(0, 0), Findings.NONE);
        x.place(Findings.RIM);
        x.way(0, -1, 2);
        due("25: IDLE", x.list(), Findings.IDLE);
        x.begin();
        due("26: none yet", x.listed(0, 0), Findings.NONE);
        due("25: two", x.list(), 2);
        due("26: the last", x.listed(1, 0), 1);
        due("26: none of the five", x.listed(2, 0), Findings.NONE);
    }
}
