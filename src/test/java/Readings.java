import java.util.ArrayList;
import java.util.List;
import java.util.function.Function;
import java.util.function.Supplier;

/**
 * All that can be seen of a court, but for told(8). Some of it can only be seen by acts that change
 * the court, so there are several ways to read, and each is given a court of its own.
 */
final class Readings {
    private static final List<Function<ScreeCourt, List<Long>>> WAYS = List.of(
            Readings::asItIs, Readings::undone, Readings::ranOn, Readings::undoneAndRanOn, Readings::slots,
            Readings::terraces, Readings::builtOn, Readings::waitingAsPairs, Readings::waitingAsCounts,
            Readings::waitingAsOrder);
    private static final int MOST_ROWS_READ = 20;

    private Readings() {
    }

    static void same(Answers answers, String what, Supplier<ScreeCourt> one, Supplier<ScreeCourt> other) {
        for (int way = 0; way < WAYS.size(); way++) {
            List<Long> want = WAYS.get(way).apply(one.get());
            List<Long> got = WAYS.get(way).apply(other.get());
            answers.due(what + ": how much reading " + way + " reads", got.size(), want.size());
            for (int i = 0; i < Math.min(got.size(), want.size()); i++) {
                answers.due(what + ": number " + i + " of reading " + way, got.get(i), want.get(i));
            }
        }
    }

    static boolean differ(Supplier<ScreeCourt> one, Supplier<ScreeCourt> other) {
        for (Function<ScreeCourt, List<Long>> way : WAYS) {
            if (!way.apply(one.get()).equals(way.apply(other.get()))) {
                return true;
            }
        }
        return false;
    }

    private static List<Long> asItIs(ScreeCourt x) {
        List<Long> read = new ArrayList<>();
        int places = x.told(1);
        for (int what = 0; what <= 7; what++) {
            read.add((long) x.told(what));
        }
        read.add((long) x.due());
        read.add((long) x.twoWay());
        for (int p = -4; p <= 12; p++) {
            read.add(x.grains(p));
            read.add(x.odometer(p));
            read.add((long) x.burnt(p));
        }
        for (int p = 0; p < places; p++) {
            for (int kind = 0; kind < 5; kind++) {
                read.add((long) x.as(p, kind));
            }
            for (int to = -3; to < places; to++) {
                read.add((long) x.weight(p, to));
            }
        }
        for (int i = 0; i < Math.min(x.told(7), MOST_ROWS_READ); i++) {
            for (int p = 0; p < places; p++) {
                read.add((long) x.listed(i, p));
            }
        }
        return read;
    }

    private static void readGrains(ScreeCourt x, List<Long> read) {
        int places = x.told(1);
        read.add((long) x.told(6));
        for (int p = -3; p < places; p++) {
            read.add(x.grains(p));
        }
        for (int p = 0; p < places; p++) {
            read.add(x.odometer(p));
        }
    }

    private static List<Long> undone(ScreeCourt x) {
        List<Long> read = new ArrayList<>();
        int left = x.undo();
        for (int i = 0; i < 21 && left != Findings.NONE; i++) {
            read.add((long) left);
            readGrains(x, read);
            left = x.undo();
        }
        read.add((long) left);
        readGrains(x, read);
        return read;
    }

    private static List<Long> ranOn(ScreeCourt x) {
        List<Long> read = new ArrayList<>();
        for (int i = 0; i < 12; i++) {
            read.add((long) x.run(1));
            readGrains(x, read);
        }
        read.add((long) x.manner(0, 0));
        return read;
    }

    private static List<Long> undoneAndRanOn(ScreeCourt x) {
        x.undo();
        return ranOn(x);
    }

    private static List<Long> slots(ScreeCourt x) {
        List<Long> read = new ArrayList<>();
        for (int slot = 0; slot < 8; slot++) {
            read.add((long) x.bring(slot));
            readGrains(x, read);
        }
        return read;
    }

    /** By a new slope, since anew() leaves the terraces as they are. */
    private static List<Long> terraces(ScreeCourt x) {
        List<Long> read = new ArrayList<>();
        x.anew();
        x.place(Findings.RIM);
        x.way(0, -1, 9);
        x.begin();
        for (int t = 0; t < 4; t++) {
            for (int i = 0; i <= 16; i++) {
                read.add((long) x.spread(t, i, 1, 0));
                x.lay(0, -(int) x.grains(0));
            }
            // the lowest 8, 16, 32 and 64 bits of this are four different numbers
            read.add(x.put(t, 0, 0x7A7B7C7D8A8B8C8DL));
        }
        return read;
    }

    private static List<Long> builtOn(ScreeCourt x) {
        List<Long> read = new ArrayList<>();
        read.add((long) x.place(Findings.RIM));
        int last = x.told(1) - 1;
        read.add((long) x.way(last, 0, 2));
        read.add((long) x.begin());
        read.add((long) x.told(0));
        read.add((long) x.way(last, -3, 1));
        for (int p = 0; p < last; p++) {
            read.add((long) x.way(p, last, 1));
        }
        read.add((long) x.begin());
        read.add((long) x.told(0));
        readGrains(x, read);
        read.add((long) x.undo());
        read.add((long) x.manner(1, 0));
        return read;
    }

    private static List<Long> waitingAsPairs(ScreeCourt x) {
        List<Long> read = new ArrayList<>();
        read.add((long) x.told(5));
        read.add((long) x.check());
        read.add((long) x.told(5));
        return read;
    }

    private static List<Long> waitingAsCounts(ScreeCourt x) {
        List<Long> read = new ArrayList<>();
        read.add((long) x.enough());
        read.add((long) x.told(5));
        return read;
    }

    private static List<Long> waitingAsOrder(ScreeCourt x) {
        List<Long> read = new ArrayList<>();
        read.add((long) x.manner(2, 0));
        read.add((long) x.told(5));
        read.addAll(ranOn(x));
        return read;
    }
}
