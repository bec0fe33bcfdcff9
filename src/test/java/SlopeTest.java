/** Promises 1 to 7. */
public final class SlopeTest {
    private static final Answers ANSWERS = new Answers("SlopeTest");

    public static void main(String[] args) {
        newObject();
        places();
        placeFindings();
        ways();
        wayFindings();
        begins();
        lostPlaces();
        anewForgets();
        anewKeeps();
        kinds();
        weights();
        ANSWERS.end();
    }

    private static void due(String call, long got, long want) {
        ANSWERS.due(call, got, want);
    }

    private static void newObject() {
        ScreeCourt x = new ScreeCourt();
        int[] first = {0, 0, 0, 0, 0, 0, 1, 0, 0};
        for (int what = 0; what < first.length; what++) {
            due("1: told(" + what + ")", x.told(what), first[what]);
        }
        due("1: due()", x.due(), 0);
        due("1: reset()", x.reset(), 0);
        due("1: burnt(-1)", x.burnt(-1), 0);
        due("1: burnt(0)", x.burnt(0), Findings.NONE);
        due("1: undo()", x.undo(), Findings.NONE);
        due("1: listed(0, 0)", x.listed(0, 0), Findings.NONE);
        for (int slot = 0; slot < 8; slot++) {
            due("1: bring(" + slot + ")", x.bring(slot), Findings.NONE);
        }
        for (int t = 0; t < 4; t++) {
            due("1: put(" + t + ", 0, 1)", x.put(t, 0, 1), Long.MIN_VALUE);
            due("1: copy from " + t, x.copy(t, 0, t, 0, 0), Findings.MISSING);
        }
        due("1: told(8)", x.told(8), 3 + 8 + 8);
        x.place(Findings.RIM);
        x.way(0, -1, 1);
        x.begin();
        due("1: first manner", x.manner(1, 0), 0);
    }

    private static void places() {
        ScreeCourt x = new ScreeCourt();
        for (int i = 0; i < 12; i++) {
            due("2: place " + i, x.place(i % 5), i);
            due("2: grains of it", x.grains(i), 0);
            due("2: told(1)", x.told(1), i + 1);
        }
        due("2: place 12", x.place(0), Findings.FULL);
        due("2: BEYOND ahead of FULL", x.place(5), Findings.BEYOND);
        due("2: told(1)", x.told(1), 12);
    }

    private static void placeFindings() {
        ScreeCourt x = new ScreeCourt();
        due("2: place(-1)", x.place(-1), Findings.BEYOND);
        due("2: place(5)", x.place(5), Findings.BEYOND);
        due("2: place(MIN)", x.place(Integer.MIN_VALUE), Findings.BEYOND);
        due("2: told(1)", x.told(1), 0);
        ScreeCourt begun = Findings.pair();
        due("2: BEGUN", begun.place(0), Findings.BEGUN);
        due("2: BEGUN ahead of BEYOND", begun.place(9), Findings.BEGUN);
    }

    private static ScreeCourt oneOfEach() {
        ScreeCourt x = new ScreeCourt();
        for (int kind = 0; kind < 5; kind++) {
            x.place(kind);
        }
        return x;
    }

    private static void ways() {
        ScreeCourt x = oneOfEach();
        for (int place = 0; place < 5; place++) {
            due("3: weight 1 from " + place, x.way(place, (place + 1) % 5, 1), 1);
        }
        due("3: again, of the LEDGE", x.way(0, 1, 1), 2);
        due("3: to another one", x.way(0, 2, 1), 3);
        due("3: CHUTE by 9", x.way(2, 3, 9), 10);
        due("3: RIM by 5", x.way(3, 0, 5), 6);
        due("3: RIM to ditch 0", x.way(3, -1, 1), 7);
        due("3: RIM to ditch 1 by 9", x.way(3, -2, 9), 16);
        due("3: RIM to ditch 2 by 2", x.way(3, -3, 2), 18);
        due("3: RIM to ditch 2 again", x.way(3, -3, 3), 21);
        due("7: sum to a place", x.weight(0, 1), 2);
        due("7: sum to a ditch", x.weight(3, -3), 5);
    }

    private static void wayFindings() {
        ScreeCourt x = oneOfEach();
        int[][] beyond = {
            {-1, 0, 1}, {5, 0, 1}, {Integer.MAX_VALUE, 0, 1}, {0, 5, 1}, {3, -4, 1},
            {3, Integer.MIN_VALUE, 1}, {3, Integer.MAX_VALUE, 1}, {3, 3, 1}, {0, 0, 2},
            {3, 0, 0}, {3, 0, 10}, {3, 0, -1}, {0, 1, 10}, {0, -1, 0}, {-1, -1, 1},
        };
        for (int[] w : beyond) {
            due("3: BEYOND " + w[0] + " " + w[1] + " " + w[2], x.way(w[0], w[1], w[2]), Findings.BEYOND);
        }
        int[][] kind = {
            {0, 1, 2}, {1, 0, 2}, {4, 0, 9}, {0, -1, 1}, {1, -1, 1}, {2, -1, 1}, {2, -3, 9}, {4, -2, 1},
            {0, -1, 2},
        };
        for (int[] w : kind) {
            due("3: KIND " + w[0] + " " + w[1] + " " + w[2], x.way(w[0], w[1], w[2]), Findings.KIND);
        }
        due("3: nothing came of these", x.way(3, 0, 1), 1);
        due("3: told(8)", x.told(8), beyond.length + kind.length);
        ScreeCourt begun = Findings.pair();
        due("3: BEGUN", begun.way(0, 1, 1), Findings.BEGUN);
        due("3: BEGUN ahead of BEYOND", begun.way(7, 1, 1), Findings.BEGUN);
        due("3: weight stays", begun.weight(0, 1), 2);
    }

    private static void begins() {
        ScreeCourt x = new ScreeCourt();
        due("4: NONE", x.begin(), Findings.NONE);
        due("4: told(2)", x.told(2), 0);
        x.place(Findings.RIM);
        x.place(Findings.SHELF);
        x.way(0, -2, 3);
        x.way(1, 0, 1);
        due("4: begin()", x.begin(), 2);
        due("4: told(2)", x.told(2), 1);
        due("4: told(3)", x.told(3), 1);
        due("4: BEGUN", x.begin(), Findings.BEGUN);
    }

    private static void lostPlaces() {
        ScreeCourt x = new ScreeCourt();
        for (int i = 0; i < 5; i++) {
            x.place(i == 4 ? Findings.RIM : Findings.LEDGE);
        }
        x.way(0, 1, 1);
        x.way(1, 2, 1);
        x.way(2, 4, 1);
        due("4: all are lost", x.begin(), Findings.LOST);
        due("4: bits of all", x.told(0), 31);
        x.way(4, -1, 1);
        due("4: a place without ways is lost", x.begin(), Findings.LOST);
        due("4: its bit", x.told(0), 8);
        due("4: not begun", x.told(2), 0);
        x.way(3, 0, 1);
        due("4: a long row of ways", x.begin(), 5);
        due("4: bits of the latest LOST stay", x.told(0), 8);
        ScreeCourt y = new ScreeCourt();
        for (int i = 0; i < 4; i++) {
            y.place(Findings.RIM);
        }
        y.way(0, 1, 1);
        y.way(1, 0, 1);
        y.way(3, 0, 1);
        y.way(2, -1, 1);
        y.way(2, 0, 1);
        due("4: ways into a ring do not lead out", y.begin(), Findings.LOST);
        due("4: bits of the ring", y.told(0), 1 + 2 + 8);
        y.way(1, 2, 1);
        due("4: the ring has a way out", y.begin(), 4);
    }

    private static void anewForgets() {
        ScreeCourt x = new ScreeCourt();
        x.place(Findings.RIM);
        x.begin();
        x.way(0, -1, 2);
        x.begin();
        x.manner(3, 99);
        x.lay(0, 5);
        x.run(9);
        x.burn();
        x.list();
        x.keep(3);
        due("5: anew()", x.anew(), 0);
        int[] first = {0, 0, 0, 0, 0, 0, 1, 0};
        for (int what = 0; what < first.length; what++) {
            due("5: told(" + what + ")", x.told(what), first[what]);
        }
        due("5: burnt(0)", x.burnt(0), Findings.NONE);
        due("5: bring(3)", x.bring(3), Findings.NONE);
        due("5: undo()", x.undo(), Findings.NONE);
        due("5: listed(0, 0)", x.listed(0, 0), Findings.NONE);
        due("5: grains(-1)", x.grains(-1), 0);
        due("5: grains(0)", x.grains(0), Findings.BEYOND);
        due("5: place()", x.place(Findings.RIM), 0);
        due("5: grains(0)", x.grains(0), 0);
        due("5: odometer(0)", x.odometer(0), 0);
        due("5: as a new kind", x.as(0, Findings.LOOSE), Findings.KIND);
        due("5: the old way is gone", x.weight(0, -1), 0);
        due("5: load", x.way(0, -2, 1), 1);
        due("5: begin()", x.begin(), 1);
        due("5: manner is 0 again", x.manner(4, 0), 0);
    }

    private static void anewKeeps() {
        ScreeCourt x = Findings.pair();
        x.terrace(2, 16, 3);
        x.put(2, 1, 7);
        x.tell(4);
        x.tell(5);
        x.told(77);
        x.burnt(-1);
        x.burn();
        due("17: not all burn", x.burnt(-1) != 0 ? 1 : 0, 1);
        x.anew();
        due("5: numbers wait on", x.told(5), 2);
        due("5: findings count on", x.told(8), 1);
        due("5: the terrace is there", x.copy(2, 1, 2, 0, 1), 1);
        x.place(Findings.RIM);
        x.way(0, -1, 9);
        x.begin();
        due("5: its numbers are there", x.spread(2, 0, 1, 0), 7);
        due("5: and no burnt ones", x.burnt(-1), 0);
    }

    private static void kinds() {
        ScreeCourt x = oneOfEach();
        boolean[][] under = {
            {true, false, false, false, false},
            {true, true, false, false, false},
            {true, true, true, false, false},
            {true, true, true, true, false},
            {true, false, false, false, true},
        };
        for (int place = 0; place < 5; place++) {
            for (int kind = 0; kind < 5; kind++) {
                due("6: as(" + place + ", " + kind + ")", x.as(place, kind),
                        under[place][kind] ? place : Findings.KIND);
            }
        }
        due("6: as(5, 0)", x.as(5, 0), Findings.BEYOND);
        due("6: as(-1, 0)", x.as(-1, 0), Findings.BEYOND);
        due("6: as(0, 5)", x.as(0, 5), Findings.BEYOND);
        due("6: as(0, -1)", x.as(0, -1), Findings.BEYOND);
        due("6: after begin", Findings.pair().as(1, Findings.SHELF), 1);
    }

    private static void weights() {
        ScreeCourt x = Findings.pair();
        due("7: weight(0, 1)", x.weight(0, 1), 2);
        due("7: weight(1, 0)", x.weight(1, 0), 2);
        due("7: weight(0, -1)", x.weight(0, -1), 1);
        due("7: weight(0, -2)", x.weight(0, -2), 0);
        due("7: weight(1, -2)", x.weight(1, -2), 1);
        due("7: weight(0, -3)", x.weight(0, -3), 0);
        due("7: to itself", x.weight(0, 0), 0);
        int[][] beyond = {{2, 0}, {-1, 0}, {0, 2}, {0, -4}, {0, Integer.MIN_VALUE}, {Integer.MAX_VALUE, -1}};
        for (int[] w : beyond) {
            due("7: weight(" + w[0] + ", " + w[1] + ")", x.weight(w[0], w[1]), Findings.BEYOND);
        }
    }
}
