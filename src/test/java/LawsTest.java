/** Laws that hold between calls, whatever the numbers are. */
public final class LawsTest {
    private static final Answers ANSWERS = new Answers("LawsTest");

    public static void main(String[] args) {
        anyOrderEndsTheSame();
        ownSlidesAreRight();
        rowsAreAGroup();
        countedAsListed();
        ANSWERS.end();
    }

    private static void due(String law, long got, long want) {
        ANSWERS.due(law, got, want);
    }

    /** A grid of 3 by 4 with places of all kinds; the RIMs at its left side have a ditch. */
    private static ScreeCourt grid(int shift) {
        ScreeCourt x = new ScreeCourt();
        for (int p = 0; p < 12; p++) {
            x.place(p % 4 == 0 ? Findings.RIM : (p + shift) % 5);
        }
        for (int p = 0; p < 12; p++) {
            if (p % 4 != 3) {
                x.way(p, p + 1, 1);
                x.way(p + 1, p, 1);
            }
            if (p < 8) {
                x.way(p, p + 4, 1);
                x.way(p + 4, p, 1);
            }
            if (p % 4 == 0) {
                x.way(p, -1 - p / 4, 1);
            }
        }
        x.begin();
        for (int p = 0; p < 12; p++) {
            x.lay(p, 1 + (p * 7 + shift) % 9);
        }
        return x;
    }

    private static void setManner(ScreeCourt x, int manner) {
        if (manner == 2) {
            for (int p = 0; p < 12; p++) {
                x.tell(11 - p);
            }
        }
        x.manner(manner, 4711);
    }

    private static void anyOrderEndsTheSame() {
        for (int shift = 0; shift < 5; shift++) {
            ScreeCourt first = grid(shift);
            due("the first one stands", first.run(5000) > 0 ? 1 : 0, 1);
            for (int manner = 1; manner < 5; manner++) {
                ScreeCourt x = grid(shift);
                setManner(x, manner);
                x.run(5000);
                due("it stands", x.told(3), 1);
                for (int p = -3; p < 12; p++) {
                    due("manner " + manner + ", grains(" + p + ")", x.grains(p), first.grains(p));
                }
                for (int p = 0; p < 12; p++) {
                    due("manner " + manner + ", odometer(" + p + ")", x.odometer(p), first.odometer(p));
                }
            }
        }
    }

    /** What a run does, told slide by slide, is right to check(), and its odometer is enough(). */
    private static void ownSlidesAreRight() {
        for (int manner = 0; manner < 5; manner++) {
            ScreeCourt twin = grid(manner);
            int slides = ranFor(manner, 5000).told(3) == 1 ? slidesOf(manner) : 0;
            due("it stands in manner " + manner, slides > 0 ? 1 : 0, 1);
            int told = Math.min(slides, 100);
            for (int i = 0; i < told; i++) {
                tellSlide(twin, ranFor(manner, i), ranFor(manner, i + 1));
            }
            due("told slides of manner " + manner, twin.check(), told == slides ? 0 : 1000);
            ScreeCourt x = ranFor(manner, 5000);
            for (int p = 0; p < 12; p++) {
                twin.tell((int) x.odometer(p));
            }
            due("the odometer of manner " + manner, twin.enough(), 1);
        }
    }

    private static int slidesOf(int manner) {
        ScreeCourt x = grid(manner);
        setManner(x, manner);
        return x.run(5000);
    }

    private static ScreeCourt ranFor(int manner, int slides) {
        ScreeCourt x = grid(manner);
        setManner(x, manner);
        x.run(slides);
        return x;
    }

    private static void tellSlide(ScreeCourt twin, ScreeCourt before, ScreeCourt behind) {
        for (int p = 0; p < 12; p++) {
            if (before.odometer(p) != behind.odometer(p)) {
                twin.tell(p);
                twin.tell((int) before.grains(p));
            }
        }
    }

    private static void layListed(ScreeCourt x, int i) {
        for (int p = 0; p < x.told(1); p++) {
            x.lay(p, x.listed(i, p) - (int) x.grains(p));
        }
    }

    private static void isSlot(String law, ScreeCourt x, int slot, int i) {
        x.bring(slot);
        for (int p = 0; p < x.told(1); p++) {
            due(law, x.grains(p), x.listed(i, p));
        }
    }

    /** A square of RIMs with one weight of 2 and two ditches. */
    private static ScreeCourt square() {
        ScreeCourt x = new ScreeCourt();
        for (int p = 0; p < 4; p++) {
            x.place(p < 2 ? Findings.RIM : Findings.CHUTE);
        }
        for (int p = 0; p < 4; p++) {
            int weight = p == 1 ? 2 : 1;
            x.way(p, (p + 1) % 4, weight);
            x.way((p + 1) % 4, p, weight);
        }
        x.way(0, -1, 1);
        x.way(1, -2, 1);
        x.begin();
        return x;
    }

    private static void rowsAreAGroup() {
        int rows = square().list();
        for (int i = 0; i < rows; i++) {
            ScreeCourt x = square();
            x.list();
            layListed(x, i);
            due("a listed row comes again", x.burn(), 1);
            int kept = x.keep(0);
            int nought = x.nought(1);
            due("with NOUGHT, how many", x.plus(0, 1, 2), kept);
            isSlot("with NOUGHT", x, 2, i);
            x.contrary(0, 3);
            x.bring(3);
            due("its contrary comes again", x.burn(), 1);
            due("with its contrary, how many", x.plus(3, 0, 4), nought);
            x.bring(1);
            long[] neutral = {x.grains(0), x.grains(1), x.grains(2), x.grains(3)};
            x.bring(4);
            for (int p = 0; p < 4; p++) {
                due("with its contrary", x.grains(p), neutral[p]);
            }
            x.contrary(3, 5);
            isSlot("the contrary's contrary", x, 5, i);
        }
    }

    private static void countedAsListed() {
        due("the square", square().many(30011), square().list());
        for (int a = 1; a < 7; a++) {
            for (int b = 1; b < 6; b++) {
                ScreeCourt x = Findings.line(a, b, 3);
                due("a line", x.many(29989), a * b * 3);
                due("a line", x.list(), a * b * 3);
            }
        }
    }
}
