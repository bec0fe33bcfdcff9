/** Promises 27 to 30. */
public final class TerraceTest {
    private static final Answers ANSWERS = new Answers("TerraceTest");

    public static void main(String[] args) {
        terraces();
        terraceFindings();
        puts();
        putFindings();
        copies();
        copyFindings();
        spreads();
        spreadFindings();
        spreadLimits();
        ANSWERS.end();
    }

    private static void due(String call, long got, long want) {
        ANSWERS.due(call, got, want);
    }

    private static void terraces() {
        ScreeCourt x = new ScreeCourt();
        for (int bits : new int[] {8, 16, 32, 64}) {
            due("27: none of them", x.terrace(3, bits, 0), 0);
            due("27: it is there all the same", x.copy(3, 0, 3, 0, 0), 0);
            due("27: sixteen", x.terrace(3, bits, 16), 16);
            due("28: the last", x.put(3, 15, 5), 5);
        }
        due("27: anew", x.terrace(3, 8, 16), 16);
        ScreeCourt y = Findings.drip();
        y.terrace(0, 8, 2);
        y.put(0, 0, 9);
        y.terrace(0, 8, 2);
        due("27: all are 0 again", y.spread(0, 0, 2, 0), 0);
        due("27: bits 0", x.terrace(3, 0, 5), 0);
        due("27: it is MISSING", x.copy(3, 0, 3, 0, 0), Findings.MISSING);
        due("27: bits 0 of n 0", x.terrace(3, 0, 0), 0);
    }

    private static void terraceFindings() {
        ScreeCourt x = new ScreeCourt();
        due("27: BEYOND", x.terrace(-1, 8, 1), Findings.BEYOND);
        due("27: BEYOND", x.terrace(4, 8, 1), Findings.BEYOND);
        for (int bits : new int[] {-8, 1, 7, 9, 24, 63, 65, 128, Integer.MIN_VALUE}) {
            due("27: bits " + bits, x.terrace(0, bits, 1), Findings.BEYOND);
        }
        due("27: SIZE", x.terrace(0, 8, -1), Findings.SIZE);
        due("27: SIZE", x.terrace(0, 8, Integer.MIN_VALUE), Findings.SIZE);
        due("27: BEYOND ahead of SIZE", x.terrace(0, 7, -1), Findings.BEYOND);
        due("27: 17", x.terrace(0, 8, 17), Findings.BEYOND);
        due("27: SIZE of bits 0", x.terrace(0, 0, -1), Findings.SIZE);
        due("27: 17 of bits 0", x.terrace(0, 0, 17), Findings.BEYOND);
        due("27: nothing came", x.put(0, 0, 1), Long.MIN_VALUE);
        x.terrace(0, 8, 2);
        x.put(0, 1, 9);
        x.terrace(0, 16, 17);
        due("27: the old one stays", x.put(0, 0, 255), -1);
    }

    private static void puts() {
        ScreeCourt x = new ScreeCourt();
        x.terrace(0, 8, 1);
        x.terrace(1, 16, 1);
        x.terrace(2, 32, 1);
        x.terrace(3, 64, 1);
        due("28: 8 bits", x.put(0, 0, 127), 127);
        due("28: 8 bits", x.put(0, 0, 128), -128);
        due("28: 8 bits", x.put(0, 0, -129), 127);
        due("28: 8 bits", x.put(0, 0, Long.MIN_VALUE), 0);
        due("28: 16 bits", x.put(1, 0, 32767), 32767);
        due("28: 16 bits", x.put(1, 0, 32768), -32768);
        due("28: 16 bits", x.put(1, 0, 65536 + 3), 3);
        due("28: 32 bits", x.put(2, 0, 2147483647L), 2147483647L);
        due("28: 32 bits", x.put(2, 0, 2147483648L), -2147483648L);
        due("28: 32 bits", x.put(2, 0, Long.MAX_VALUE), -1);
        due("28: 64 bits", x.put(3, 0, Long.MAX_VALUE), Long.MAX_VALUE);
        due("28: 64 bits", x.put(3, 0, -1), -1);
        due("28: no finding", x.put(3, 0, Long.MIN_VALUE), Long.MIN_VALUE);
        due("35: none was counted", x.told(8), 0);
    }

    private static void putFindings() {
        ScreeCourt x = new ScreeCourt();
        x.terrace(0, 8, 3);
        long[][] wrong = {{-1, 0}, {4, 0}, {1, 0}, {0, 3}, {0, -1}, {0, Integer.MAX_VALUE}, {0, Integer.MIN_VALUE}};
        int count = 0;
        for (long[] w : wrong) {
            due("28: put(" + w[0] + ", " + w[1] + ", 7)", x.put((int) w[0], (int) w[1], 7), Long.MIN_VALUE);
            count++;
            due("35: it is counted", x.told(8), count);
        }
    }

    private static ScreeCourt courtWithNumbers() {
        ScreeCourt x = new ScreeCourt();
        for (int i = 0; i < 5; i++) {
            x.place(Findings.RIM);
            x.way(i, -1, 9);
        }
        x.begin();
        x.terrace(0, 8, 5);
        for (int i = 0; i < 5; i++) {
            x.put(0, i, i + 1);
        }
        return x;
    }

    private static void numbersAre(String which, ScreeCourt x, int t, int... numbers) {
        for (int place = 0; place < 5; place++) {
            x.lay(place, -(int) x.grains(place));
        }
        x.spread(t, 0, numbers.length, 0);
        for (int i = 0; i < numbers.length; i++) {
            due(which + ", number " + i, x.grains(i), numbers[i]);
        }
    }

    private static void copies() {
        ScreeCourt x = courtWithNumbers();
        x.terrace(1, 8, 3);
        due("29: two", x.copy(0, 3, 1, 1, 2), 2);
        numbersAre("29: two", x, 1, 0, 4, 5);
        numbersAre("29: the first one stays", x, 0, 1, 2, 3, 4, 5);
        due("29: none, behind the last", x.copy(0, 5, 1, 3, 0), 0);
        due("29: upward within one", x.copy(0, 0, 0, 1, 4), 4);
        numbersAre("29: upward", x, 0, 1, 1, 2, 3, 4);
        due("29: downward within one", x.copy(0, 2, 0, 0, 3), 3);
        numbersAre("29: downward", x, 0, 2, 3, 4, 3, 4);
    }

    private static void copyFindings() {
        ScreeCourt x = courtWithNumbers();
        x.terrace(1, 8, 3);
        x.terrace(2, 64, 9);
        due("29: BEYOND", x.copy(-1, 0, 1, 0, 1), Findings.BEYOND);
        due("29: BEYOND", x.copy(0, 0, 4, 0, 1), Findings.BEYOND);
        due("29: BEYOND ahead of MISSING", x.copy(3, 0, 4, 0, 1), Findings.BEYOND);
        due("29: MISSING", x.copy(3, 0, 0, 0, 1), Findings.MISSING);
        due("29: MISSING", x.copy(0, 0, 3, 0, 1), Findings.MISSING);
        due("29: KIND", x.copy(0, 0, 2, 0, 1), Findings.KIND);
        due("29: KIND ahead of BEYOND", x.copy(0, 99, 2, 0, 1), Findings.KIND);
        int max = Integer.MAX_VALUE;
        int[][] beyond = {
            {-1, 0, 1}, {0, -1, 1}, {0, 0, -1}, {5, 0, 1}, {0, 3, 1}, {4, 0, 2}, {0, 2, 2}, {0, 0, 4}, {6, 0, 0},
            {0, 4, 0}, {max, 0, 1}, {0, max, 1}, {0, 0, max}, {max, max, max}, {Integer.MIN_VALUE, 0, max}, {1, 0, max},
        };
        for (int[] b : beyond) {
            due("29: BEYOND " + b[0] + " " + b[1] + " " + b[2], x.copy(0, b[0], 1, b[1], b[2]), Findings.BEYOND);
        }
        numbersAre("29: nothing came", x, 1, 0, 0, 0);
    }

    private static void spreads() {
        ScreeCourt x = courtWithNumbers();
        due("30: two of them", x.spread(0, 2, 2, 3), 7);
        due("9: grains(2)", x.grains(2), 0);
        due("9: grains(3)", x.grains(3), 3);
        due("9: grains(4)", x.grains(4), 4);
        due("30: all grains then", x.spread(0, 0, 5, 0), 22);
        due("30: none of them", x.spread(0, 5, 0, 5), 22);
        due("34: each can be undone", x.undo(), 2);
        due("34: the latest did nothing", x.told(4), 22);
        due("34: undo", x.undo(), 1);
        due("34: grains", x.told(4), 7);
    }

    private static void spreadFindings() {
        ScreeCourt x = courtWithNumbers();
        due("30: BEYOND", x.spread(-1, 0, 1, 0), Findings.BEYOND);
        due("30: BEYOND", x.spread(4, 0, 1, 0), Findings.BEYOND);
        due("30: MISSING", x.spread(1, 0, 1, 0), Findings.MISSING);
        int max = Integer.MAX_VALUE;
        int[][] beyond = {
            {-1, 1, 0}, {0, -1, 0}, {5, 1, 0}, {3, 3, 0}, {0, 6, 0}, {0, 1, 5}, {0, 2, 4}, {0, 1, -1}, {0, 0, -1},
            {0, 0, 6}, {6, 0, 0}, {max, 1, 0}, {0, max, 0}, {0, 1, max}, {max, max, max},
        };
        for (int[] b : beyond) {
            due("30: BEYOND " + b[0] + " " + b[1] + " " + b[2], x.spread(0, b[0], b[1], b[2]), Findings.BEYOND);
        }
        due("34: none of these can be undone", x.undo(), Findings.NONE);
        ScreeCourt idle = new ScreeCourt();
        idle.terrace(0, 8, 2);
        idle.put(0, 0, -1);
        due("30: BEYOND ahead of IDLE", idle.spread(0, 0, 1, 0), Findings.BEYOND);
        idle.place(0);
        due("30: IDLE ahead of DEBT", idle.spread(0, 0, 1, 0), Findings.IDLE);
    }

    private static void spreadLimits() {
        ScreeCourt x = courtWithNumbers();
        x.terrace(1, 64, 3);
        x.put(1, 0, 1000001);
        x.put(1, 1, -1);
        x.put(1, 2, 1000000);
        due("30: DEBT ahead of FULL", x.spread(1, 0, 2, 0), Findings.DEBT);
        due("30: FULL", x.spread(1, 0, 1, 0), Findings.FULL);
        due("30: just not FULL", x.spread(1, 2, 1, 4), 1000000);
        x.put(1, 2, Long.MAX_VALUE);
        due("30: FULL by very much", x.spread(1, 2, 1, 4), Findings.FULL);
        x.put(1, 2, Long.MIN_VALUE);
        due("30: DEBT by very much", x.spread(1, 2, 1, 0), Findings.DEBT);
        x.put(1, 0, 1);
        x.put(1, 1, 1);
        due("30: FULL at the second place", x.spread(1, 0, 2, 3), Findings.FULL);
        due("30: nothing came to the first", x.grains(3), 0);
        x.lay(4, -1);
        due("30: at the limit", x.spread(1, 0, 2, 3), 1000001);
        x.put(1, 0, 4294967296L);
        due("30: more than an int is FULL", x.spread(1, 0, 1, 0), Findings.FULL);
    }
}
