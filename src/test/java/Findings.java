/** The findings and kinds by the names that the document gives them, and slopes that tests share. */
final class Findings {
    static final int BEYOND = -1;
    static final int MISSING = -2;
    static final int SIZE = -3;
    static final int KIND = -4;
    static final int FULL = -5;
    static final int BEGUN = -6;
    static final int LOST = -7;
    static final int IDLE = -8;
    static final int SPENT = -9;
    static final int MANY = -10;
    static final int NONE = -11;
    static final int ONE_WAY = -12;
    static final int DEBT = -13;

    static final int LEDGE = 0;
    static final int SHELF = 1;
    static final int CHUTE = 2;
    static final int RIM = 3;
    static final int LOOSE = 4;

    private Findings() {
    }

    /** Two RIMs with weight 2 both ways and weight 1 to a ditch each; 5 rows come again. */
    static ScreeCourt pair() {
        ScreeCourt court = new ScreeCourt();
        court.place(RIM);
        court.place(RIM);
        court.way(0, 1, 2);
        court.way(1, 0, 2);
        court.way(0, -1, 1);
        court.way(1, -2, 1);
        court.begin();
        return court;
    }

    /** LEDGEs 0, 1, 2 with one way each to RIM 3, which has weight 9 to ditch 0. */
    static ScreeCourt fan() {
        ScreeCourt court = new ScreeCourt();
        for (int i = 0; i < 3; i++) {
            court.place(LEDGE);
        }
        court.place(RIM);
        for (int i = 0; i < 3; i++) {
            court.way(i, 3, 1);
        }
        court.way(3, -1, 9);
        court.begin();
        return court;
    }

    /** LEDGE 0 with a way to RIM 1, which has weight 1 to ditch 2: n grains at 0 take n + 1 slides. */
    static ScreeCourt drip() {
        ScreeCourt court = new ScreeCourt();
        court.place(LEDGE);
        court.place(RIM);
        court.way(0, 1, 1);
        court.way(1, -3, 1);
        court.begin();
        return court;
    }

    /** RIM 0 with weight 1 to RIM 1, which has weight 9 to ditch 0. */
    static ScreeCourt pour() {
        ScreeCourt court = new ScreeCourt();
        court.place(RIM);
        court.place(RIM);
        court.way(0, 1, 1);
        court.way(1, -1, 9);
        court.begin();
        return court;
    }

    /** Places in a line, two-way, RIM 0 with weights[0] to ditch 0 and weights[i] between i - 1 and i. */
    static ScreeCourt line(int... weights) {
        ScreeCourt court = new ScreeCourt();
        for (int i = 0; i < weights.length; i++) {
            court.place(RIM);
        }
        addWeight(court, 0, -1, weights[0]);
        for (int i = 1; i < weights.length; i++) {
            addWeight(court, i - 1, i, weights[i]);
            addWeight(court, i, i - 1, weights[i]);
        }
        court.begin();
        return court;
    }

    private static void addWeight(ScreeCourt court, int place, int to, int weight) {
        for (int left = weight; left > 0; left -= 9) {
            court.way(place, to, Math.min(9, left));
        }
    }

    static void tellAll(ScreeCourt court, int... numbers) {
        for (int number : numbers) {
            court.tell(number);
        }
    }
}
