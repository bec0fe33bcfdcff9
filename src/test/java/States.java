/** Courts in states in which as much as may be is there to be changed, so that a change is seen. */
final class States {
    private States() {
    }

    /** Places 0 (LEDGE), 1 (RIM) and 2 (LOOSE); 2 has no way, so the latest LOST has bit 2. */
    static ScreeCourt unbegun(int... waiting) {
        ScreeCourt x = new ScreeCourt();
        x.place(Findings.LEDGE);
        x.place(Findings.RIM);
        x.place(Findings.LOOSE);
        x.way(0, 1, 1);
        x.way(1, 0, 2);
        x.way(1, -1, 1);
        x.begin();
        layTerraces(x);
        Findings.tellAll(x, waiting);
        return x;
    }

    static ScreeCourt twelvePlaces() {
        ScreeCourt x = new ScreeCourt();
        for (int p = 0; p < 12; p++) {
            x.place(p % 5);
        }
        return x;
    }

    /** 5, -1, 7 of 8 bits; 1000001, 3 of 64 bits; 0, 0 of 8 bits; and a MISSING one. */
    private static void layTerraces(ScreeCourt x) {
        x.terrace(0, 8, 3);
        x.put(0, 0, 5);
        x.put(0, 1, -1);
        x.put(0, 2, 7);
        x.terrace(1, 64, 2);
        x.put(1, 0, 1000001);
        x.put(1, 1, 3);
        x.terrace(2, 8, 2);
    }

    private static void join(ScreeCourt x, int p, int q) {
        x.way(p, q, 1);
        x.way(q, p, 1);
    }

    /** A ring of RIM 0, LEDGE 1, LOOSE 2 and CHUTE 3, begun behind a LOST of all four. */
    private static ScreeCourt ring(boolean twoWay) {
        ScreeCourt x = new ScreeCourt();
        x.place(Findings.RIM);
        x.place(Findings.LEDGE);
        x.place(Findings.LOOSE);
        x.place(Findings.CHUTE);
        x.begin();
        join(x, 0, 1);
        join(x, 1, 2);
        join(x, 2, 3);
        join(x, 3, 0);
        if (!twoWay) {
            x.way(2, 0, 1);
        }
        x.way(0, -1, 1);
        x.way(0, -2, 2);
        x.begin();
        return x;
    }

    /** Slots 0 and 5 are filled; of a two-way slope places 0 and 3 burnt and 12 rows are listed. */
    private static void fillUp(ScreeCourt x) {
        layTerraces(x);
        x.lay(0, 2);
        x.lay(3, 1);
        x.burn();
        x.list();
        x.keep(0);
        x.lay(1, 9);
        x.keep(5);
    }

    private static void setManner(ScreeCourt x, int manner) {
        if (manner == 2) {
            Findings.tellAll(x, 2, 3, 1, 0);
        }
        x.manner(manner, 4711);
    }

    /** Six acts that can be undone, the fourth a run() that was SPENT. */
    private static void act(ScreeCourt x) {
        x.lay(0, 12);
        x.lay(1, 5);
        x.lay(2, 9);
        x.run(3);
        x.slide(2);
        x.lay(3, 2);
    }

    /** Two-way; it does not stand. */
    static ScreeCourt rich(int manner, int... waiting) {
        ScreeCourt x = ring(true);
        fillUp(x);
        setManner(x, manner);
        act(x);
        Findings.tellAll(x, waiting);
        return x;
    }

    static ScreeCourt oneWay(int manner, int... waiting) {
        ScreeCourt x = ring(false);
        fillUp(x);
        setManner(x, manner);
        act(x);
        Findings.tellAll(x, waiting);
        return x;
    }

    /** As rich, and slid until it stands. */
    static ScreeCourt rested(boolean twoWay) {
        ScreeCourt x = ring(twoWay);
        fillUp(x);
        setManner(x, 4);
        act(x);
        x.run(5000);
        return x;
    }

    /** Two RIMs; 0 has 1 grain, and 1, where its way leads, has 1000000. */
    static ScreeCourt pressed(int manner, int... waiting) {
        ScreeCourt x = Findings.pour();
        layTerraces(x);
        x.keep(1);
        if (manner == 2) {
            Findings.tellAll(x, 0, 1);
        }
        x.manner(manner, 0);
        x.lay(0, 1);
        x.lay(1, 1000000);
        x.keep(0);
        Findings.tellAll(x, waiting);
        return x;
    }

    /** As many acts as are kept to be undone, and one more. */
    static ScreeCourt longPast() {
        ScreeCourt x = Findings.pair();
        layTerraces(x);
        for (int i = 1; i <= 21; i++) {
            x.lay(i % 2, i);
        }
        return x;
    }
}
