/**
 * A court for slopes of grains whose slides may be taken in any order, since the end is the same.
 *
 * <p>Answers below 0 are findings; the numbers that stand for them are the constants below.
 */
public final class ScreeCourt {
    private static final int BEYOND = -1;
    private static final int MISSING = -2;
    private static final int SIZE = -3;
    private static final int KIND = -4;
    private static final int FULL = -5;
    private static final int BEGUN = -6;
    private static final int LOST = -7;
    private static final int IDLE = -8;
    private static final int SPENT = -9;
    private static final int MANY = -10;
    private static final int NONE = -11;
    private static final int ONE_WAY = -12;
    private static final int DEBT = -13;

    private static final int SHELF = 1;
    private static final int CHUTE = 2;
    private static final int RIM = 3;
    private static final int LOOSE = 4;
    /** The kind that each kind stands under; -1 of the topmost. */
    private static final int[] ABOVE = {-1, 0, 1, 2, 0};
    private static final int KINDS = 5;

    private static final int LOWEST = 0;
    private static final int FULLEST = 1;
    private static final int IN_ORDER = 2;
    private static final int LOTS = 3;
    private static final int ASKED = 4;

    private static final int NOWHERE = -1;
    private static final int ALL_RIGHT_BUT_DUE = 1000;

    private static final int MOST_PLACES = 12;
    private static final int DITCHES = 3;
    private static final int MOST_WEIGHT = 9;
    private static final int MOST_GRAINS = 1000000;
    private static final int MOST_SLIDES_OF_RUN = 5000;
    private static final int MOST_SLIDES_OF_TRIAL = 20000;
    private static final int MOST_COUNT_TOLD = 1000000;
    private static final int MOST_PRIME = 30011;
    private static final int MOST_ROWS = 200;
    private static final int MOST_WAITING = 200;
    private static final int MOST_UNDONE = 20;
    private static final int SLOTS = 8;
    private static final int TERRACES = 4;
    private static final int MOST_NUMBERS = 16;
    private static final int LONG_BITS = 64;

    private static final long LOT_FACTOR = 1103515245L;
    private static final long LOT_STEP = 12345L;
    private static final long LOT_RANGE = 2147483648L;
    private static final long LOT_CUT = 256L;

    private final Slope slope;
    private final Heap heap;
    /** Takes the slidings that the slope itself must not see. */
    private final Heap trial;
    private final Chooser chooser;
    private final History history;
    private final Fire latestFire;
    private final Roster roster;
    private final Tally tally;
    private final int[][] slots;
    private final boolean[] slotFilled;
    private final Terrace[] terraces;
    private final Queue waiting;
    /** What is left of A in nought() and contrary(): grains that come to nothing in the group. */
    private final int[] leftOfA;
    private boolean begun;
    private int lostBits;
    private int findings;

    public ScreeCourt() {
        slope = new Slope();
        heap = new Heap(slope);
        trial = new Heap(slope);
        chooser = new Chooser(slope, heap);
        history = new History();
        latestFire = new Fire();
        roster = new Roster();
        tally = new Tally();
        slots = new int[SLOTS][MOST_PLACES];
        slotFilled = new boolean[SLOTS];
        terraces = new Terrace[TERRACES];
        for (int t = 0; t < TERRACES; t++) {
            terraces[t] = new Terrace();
        }
        waiting = new Queue();
        leftOfA = new int[MOST_PLACES];
    }

    // ---- the slope

    public int place(int kind) {
        if (begun) {
            return found(BEGUN);
        }
        if (kind < 0 || kind >= KINDS) {
            return found(BEYOND);
        }
        if (slope.size >= MOST_PLACES) {
            return found(FULL);
        }
        return slope.addPlace(kind);
    }

    public int way(int place, int to, int weight) {
        if (begun) {
            return found(BEGUN);
        }
        if (!slope.has(place) || !slope.hasEnd(to) || to == place) {
            return found(BEYOND);
        }
        if (weight < 1 || weight > MOST_WEIGHT) {
            return found(BEYOND);
        }
        if (weight != 1 && !slope.isOf(place, CHUTE)) {
            return found(KIND);
        }
        if (to < 0 && !slope.isOf(place, RIM)) {
            return found(KIND);
        }
        return slope.addWay(place, to, weight);
    }

    public int begin() {
        if (begun) {
            return found(BEGUN);
        }
        if (slope.size == 0) {
            return found(NONE);
        }
        int lost = slope.bitsOfLost();
        if (lost != 0) {
            lostBits = lost;
            return found(LOST);
        }
        begun = true;
        return slope.size;
    }

    public int anew() {
        slope.clear();
        heap.clear();
        chooser.clear();
        history.clear();
        latestFire.clear();
        roster.clear();
        for (int slot = 0; slot < SLOTS; slot++) {
            slotFilled[slot] = false;
        }
        begun = false;
        lostBits = 0;
        return 0;
    }

    public int as(int place, int kind) {
        if (!slope.has(place) || kind < 0 || kind >= KINDS) {
            return found(BEYOND);
        }
        return slope.isOf(place, kind) ? place : found(KIND);
    }

    public int weight(int place, int to) {
        if (!slope.has(place) || !slope.hasEnd(to)) {
            return found(BEYOND);
        }
        return slope.weightBetween(place, to);
    }

    // ---- grains

    public int lay(int place, int g) {
        if (!slope.has(place)) {
            return found(BEYOND);
        }
        if (!begun) {
            return found(IDLE);
        }
        long then = (long) heap.grains[place] + g;
        if (then < 0) {
            return found(DEBT);
        }
        if (then > MOST_GRAINS) {
            return found(FULL);
        }
        history.note(heap, chooser);
        heap.grains[place] = (int) then;
        return heap.grains[place];
    }

    public long grains(int place) {
        if (slope.has(place)) {
            return heap.grains[place];
        }
        if (slope.isDitch(place)) {
            return heap.ditches[-1 - place];
        }
        return found(BEYOND);
    }

    public int due() {
        return heap.countDue();
    }

    public int slide(int place) {
        if (!slope.has(place)) {
            return found(BEYOND);
        }
        if (!heap.isDue(place)) {
            return found(IDLE);
        }
        if (heap.wouldOverfill(place)) {
            return found(FULL);
        }
        history.note(heap, chooser);
        return heap.letSlide(place);
    }

    public int manner(int manner, int seed) {
        if (manner < LOWEST || manner > ASKED || (manner == LOTS && seed < 0)) {
            return found(BEYOND);
        }
        if (!begun) {
            return found(IDLE);
        }
        if (manner == IN_ORDER && !waiting.isOrderOf(slope.size)) {
            return found(BEYOND);
        }
        int before = chooser.manner;
        if (manner == IN_ORDER) {
            chooser.takeOrder(waiting);
            waiting.clear();
        }
        if (manner == LOTS) {
            chooser.seed = seed;
        }
        chooser.rowSize = 0;
        chooser.manner = manner;
        history.clear();
        return before;
    }

    public int run(int n) {
        if (n < 1 || n > MOST_SLIDES_OF_RUN) {
            return found(BEYOND);
        }
        if (!begun) {
            return found(IDLE);
        }
        history.note(heap, chooser);
        for (int done = 0; done < n; done++) {
            int place = chooser.chooseNext();
            if (place == NOWHERE) {
                return done;
            }
            if (heap.wouldOverfill(place)) {
                return found(FULL);
            }
            heap.letSlide(place);
            chooser.hearOfSlide(place);
        }
        return heap.stands() ? n : found(SPENT);
    }

    public long odometer(int place) {
        if (!slope.has(place)) {
            return found(BEYOND);
        }
        return heap.slid[place];
    }

    public int reset() {
        int moved = 0;
        for (int place = 0; place < slope.size; place++) {
            if (heap.slid[place] != 0) {
                moved++;
            }
            heap.slid[place] = 0;
        }
        history.clear();
        return moved;
    }

    // ---- slopes that come again

    public int twoWay() {
        if (!begun) {
            return found(IDLE);
        }
        return slope.isTwoWay() ? 1 : 0;
    }

    public int burn() {
        if (!begun || !heap.stands()) {
            return found(IDLE);
        }
        if (!slope.isTwoWay()) {
            return found(ONE_WAY);
        }
        latestFire.light(slope, heap.grains, NOWHERE);
        return latestFire.unburnt == 0 ? 1 : 0;
    }

    public int burnt(int k) {
        if (k == -1) {
            return latestFire.unburnt;
        }
        if (k < 0 || k >= latestFire.count) {
            return found(NONE);
        }
        return latestFire.order[k];
    }

    public int keep(int slot) {
        if (!isSlot(slot)) {
            return found(BEYOND);
        }
        if (!begun) {
            return found(IDLE);
        }
        return fillSlot(slot, heap);
    }

    public int bring(int slot) {
        if (!isSlot(slot)) {
            return found(BEYOND);
        }
        if (!slotFilled[slot]) {
            return found(NONE);
        }
        if (!begun) {
            return found(IDLE);
        }
        heap.takeGrains(slots[slot]);
        history.clear();
        return heap.sum();
    }

    public int plus(int slot, int other, int to) {
        if (!isSlot(slot) || !isSlot(other) || !isSlot(to)) {
            return found(BEYOND);
        }
        if (!slotFilled[slot] || !slotFilled[other]) {
            return found(NONE);
        }
        if (!begun) {
            return found(IDLE);
        }
        for (int place = 0; place < slope.size; place++) {
            trial.grains[place] = slots[slot][place] + slots[other][place];
        }
        return settleInto(to);
    }

    public int nought(int to) {
        if (!isSlot(to)) {
            return found(BEYOND);
        }
        if (!begun) {
            return found(IDLE);
        }
        if (!slope.isTwoWay()) {
            return found(ONE_WAY);
        }
        if (!findLeftOfA()) {
            return found(FULL);
        }
        trial.takeGrains(leftOfA);
        return settleInto(to);
    }

    public int contrary(int slot, int to) {
        if (!isSlot(slot) || !isSlot(to)) {
            return found(BEYOND);
        }
        if (!slotFilled[slot]) {
            return found(NONE);
        }
        if (!begun) {
            return found(IDLE);
        }
        if (!slope.isTwoWay()) {
            return found(ONE_WAY);
        }
        if (!findLeftOfA()) {
            return found(FULL);
        }
        trial.takeGrains(slots[slot]);
        if (!trial.settle()) {
            return found(FULL);
        }
        for (int place = 0; place < slope.size; place++) {
            trial.grains[place] = 2 * leftOfA[place] - trial.grains[place];
        }
        return settleInto(to);
    }

    public int many(int p) {
        if (!isPrimeInRange(p)) {
            return found(BEYOND);
        }
        if (!begun) {
            return found(IDLE);
        }
        if (!slope.isTwoWay()) {
            return found(ONE_WAY);
        }
        return tally.countRows(slope, p);
    }

    public int list() {
        if (!begun) {
            return found(IDLE);
        }
        if (!slope.isTwoWay()) {
            return found(ONE_WAY);
        }
        return roster.gather(slope) ? roster.count : found(MANY);
    }

    public int listed(int i, int place) {
        if (i < 0 || i >= roster.count) {
            return found(NONE);
        }
        if (!slope.has(place)) {
            return found(BEYOND);
        }
        return roster.grainsOf(i, place);
    }

    // ---- terraces

    public int terrace(int t, int bits, int n) {
        if (!isTerrace(t) || !isWidth(bits)) {
            return found(BEYOND);
        }
        if (n < 0) {
            return found(SIZE);
        }
        if (n > MOST_NUMBERS) {
            return found(BEYOND);
        }
        return terraces[t].build(bits, n);
    }

    public long put(int t, int i, long v) {
        if (!isTerrace(t)) {
            return foundByPut(BEYOND);
        }
        if (terraces[t].isMissing()) {
            return foundByPut(MISSING);
        }
        if (i < 0 || i >= terraces[t].length) {
            return foundByPut(BEYOND);
        }
        return terraces[t].store(i, v);
    }

    public int copy(int t, int from, int u, int to, int n) {
        if (!isTerrace(t) || !isTerrace(u)) {
            return found(BEYOND);
        }
        if (terraces[t].isMissing() || terraces[u].isMissing()) {
            return found(MISSING);
        }
        if (terraces[t].bits != terraces[u].bits) {
            return found(KIND);
        }
        if (!isStretch(from, n, terraces[t].length) || !isStretch(to, n, terraces[u].length)) {
            return found(BEYOND);
        }
        System.arraycopy(terraces[t].numbers, from, terraces[u].numbers, to, n);
        return n;
    }

    public int spread(int t, int from, int n, int place) {
        if (!isTerrace(t)) {
            return found(BEYOND);
        }
        if (terraces[t].isMissing()) {
            return found(MISSING);
        }
        if (!isStretch(from, n, terraces[t].length) || !isStretch(place, n, slope.size)) {
            return found(BEYOND);
        }
        if (!begun) {
            return found(IDLE);
        }
        long[] numbers = terraces[t].numbers;
        if (hasDebt(numbers, from, n)) {
            return found(DEBT);
        }
        for (int i = 0; i < n; i++) {
            if (numbers[from + i] > MOST_GRAINS - heap.grains[place + i]) {
                return found(FULL);
            }
        }
        history.note(heap, chooser);
        for (int i = 0; i < n; i++) {
            heap.grains[place + i] += (int) numbers[from + i];
        }
        return heap.sum();
    }

    // ---- what is told is checked

    public int tell(int v) {
        if (waiting.size >= MOST_WAITING) {
            return found(FULL);
        }
        return waiting.add(v);
    }

    public int enough() {
        int answer = IDLE;
        if (begun) {
            answer = weighCounts();
        }
        waiting.clear();
        return answer < 0 ? found(answer) : answer;
    }

    public int check() {
        int answer = IDLE;
        if (begun) {
            answer = followPairs();
        }
        waiting.clear();
        return answer < 0 ? found(answer) : answer;
    }

    public int undo() {
        if (history.count == 0) {
            return found(NONE);
        }
        history.goBack(heap, chooser);
        return history.count;
    }

    public int told(int what) {
        switch (what) {
            case 0:
                return lostBits;
            case 1:
                return slope.size;
            case 2:
                return begun ? 1 : 0;
            case 3:
                return begun && heap.stands() ? 1 : 0;
            case 4:
                return heap.sum();
            case 5:
                return waiting.size;
            case 6:
                return (int) chooser.seed;
            case 7:
                return roster.count;
            case 8:
                return findings;
            default:
                return found(BEYOND);
        }
    }

    // ---- what the acts share

    private int found(int finding) {
        findings++;
        return finding;
    }

    /** put() has no room for findings among its numbers, but they count all the same. */
    private long foundByPut(int finding) {
        found(finding);
        return Long.MIN_VALUE;
    }

    private int fillSlot(int slot, Heap from) {
        System.arraycopy(from.grains, 0, slots[slot], 0, MOST_PLACES);
        slotFilled[slot] = true;
        return from.sum();
    }

    private int settleInto(int slot) {
        return trial.settle() ? fillSlot(slot, trial) : found(FULL);
    }

    /** False when the sliding of A is too much. */
    private boolean findLeftOfA() {
        for (int place = 0; place < slope.size; place++) {
            leftOfA[place] = 2 * (slope.loads[place] - 1);
        }
        trial.takeGrains(leftOfA);
        if (!trial.settle()) {
            return false;
        }
        for (int place = 0; place < slope.size; place++) {
            leftOfA[place] -= trial.grains[place];
        }
        return true;
    }

    private int weighCounts() {
        if (waiting.size != slope.size) {
            return SIZE;
        }
        for (int i = 0; i < waiting.size; i++) {
            if (waiting.numbers[i] < 0 || waiting.numbers[i] > MOST_COUNT_TOLD) {
                return DEBT;
            }
        }
        for (int place = 0; place < slope.size; place++) {
            if (grainsAfterCounts(place) >= slope.loads[place]) {
                return 0;
            }
        }
        return 1;
    }

    private long grainsAfterCounts(int place) {
        long then = heap.grains[place] - (long) waiting.numbers[place] * slope.loads[place];
        for (int from = 0; from < slope.size; from++) {
            then += (long) waiting.numbers[from] * slope.weights[from][place];
        }
        return then;
    }

    private int followPairs() {
        trial.takeGrains(heap.grains);
        for (int at = 0; at < waiting.size; at += 2) {
            int wrong = at / 2 + 1;
            if (at + 1 >= waiting.size) {
                return wrong;
            }
            int place = waiting.numbers[at];
            if (!slope.has(place) || !trial.isDue(place)) {
                return wrong;
            }
            if (trial.grains[place] != waiting.numbers[at + 1]) {
                return wrong;
            }
            if (trial.wouldOverfill(place)) {
                return FULL;
            }
            trial.letSlide(place);
        }
        return trial.stands() ? 0 : ALL_RIGHT_BUT_DUE;
    }

    private static boolean isSlot(int slot) {
        return slot >= 0 && slot < SLOTS;
    }

    private static boolean isTerrace(int t) {
        return t >= 0 && t < TERRACES;
    }

    private static boolean isWidth(int bits) {
        return bits == 0 || bits == 8 || bits == 16 || bits == 32 || bits == LONG_BITS;
    }

    /** Whether n things from one on lie within the length; told so that no sum can wrap around. */
    private static boolean isStretch(int from, int n, int length) {
        return from >= 0 && n >= 0 && n <= length && from <= length - n;
    }

    private static boolean hasDebt(long[] numbers, int from, int n) {
        for (int i = from; i < from + n; i++) {
            if (numbers[i] < 0) {
                return true;
            }
        }
        return false;
    }

    private static boolean isPrimeInRange(int p) {
        if (p < 2 || p > MOST_PRIME) {
            return false;
        }
        for (int divisor = 2; divisor * divisor <= p; divisor++) {
            if (p % divisor == 0) {
                return false;
            }
        }
        return true;
    }

    /** Places with their kinds, and the ways between them and to ditches. */
    private static final class Slope {
        private final int[] kinds = new int[MOST_PLACES];
        /** By place and by end; the ditches are the ends behind the places. */
        private final int[][] weights = new int[MOST_PLACES][MOST_PLACES + DITCHES];
        private final int[] loads = new int[MOST_PLACES];
        private int size;

        void clear() {
            for (int place = 0; place < MOST_PLACES; place++) {
                kinds[place] = 0;
                loads[place] = 0;
                for (int end = 0; end < MOST_PLACES + DITCHES; end++) {
                    weights[place][end] = 0;
                }
            }
            size = 0;
        }

        boolean has(int place) {
            return place >= 0 && place < size;
        }

        boolean isDitch(int to) {
            return to < 0 && to >= -DITCHES;
        }

        boolean hasEnd(int to) {
            return has(to) || isDitch(to);
        }

        private int endOf(int to) {
            return to >= 0 ? to : MOST_PLACES - 1 - to;
        }

        int addPlace(int kind) {
            kinds[size] = kind;
            size++;
            return size - 1;
        }

        int addWay(int place, int to, int weight) {
            weights[place][endOf(to)] += weight;
            loads[place] += weight;
            return loads[place];
        }

        int weightBetween(int place, int to) {
            return weights[place][endOf(to)];
        }

        boolean isOf(int place, int kind) {
            int up = kinds[place];
            for (int step = 0; step < KINDS && up >= 0; step++) {
                if (up == kind) {
                    return true;
                }
                up = ABOVE[up];
            }
            return false;
        }

        int bitsOfAll() {
            return (1 << size) - 1;
        }

        int weightToPlaces(int place, int bits) {
            int sum = 0;
            for (int end = 0; end < size; end++) {
                if ((bits & (1 << end)) != 0) {
                    sum += weights[place][end];
                }
            }
            return sum;
        }

        private boolean hasDitch(int place) {
            for (int d = 0; d < DITCHES; d++) {
                if (weights[place][MOST_PLACES + d] > 0) {
                    return true;
                }
            }
            return false;
        }

        int bitsOfLost() {
            int lost = bitsOfAll();
            for (int round = 0; round < size; round++) {
                for (int place = 0; place < size; place++) {
                    int led = bitsOfAll() & ~lost;
                    if (hasDitch(place) || weightToPlaces(place, led) > 0) {
                        lost &= ~(1 << place);
                    }
                }
            }
            return lost;
        }

        boolean isTwoWay() {
            for (int place = 0; place < size; place++) {
                for (int other = 0; other < place; other++) {
                    if (weights[place][other] != weights[other][place]) {
                        return false;
                    }
                }
            }
            return true;
        }
    }

    /** Grains on a slope, what fell into its ditches, and how often its places slid. */
    private static final class Heap {
        private final Slope slope;
        private final int[] grains = new int[MOST_PLACES];
        private final long[] ditches = new long[DITCHES];
        private final long[] slid = new long[MOST_PLACES];

        Heap(Slope slope) {
            this.slope = slope;
        }

        void clear() {
            for (int place = 0; place < MOST_PLACES; place++) {
                grains[place] = 0;
                slid[place] = 0;
            }
            for (int d = 0; d < DITCHES; d++) {
                ditches[d] = 0;
            }
        }

        void takeGrains(int[] row) {
            System.arraycopy(row, 0, grains, 0, MOST_PLACES);
        }

        int sum() {
            int all = 0;
            for (int place = 0; place < slope.size; place++) {
                all += grains[place];
            }
            return all;
        }

        boolean isDue(int place) {
            int load = slope.loads[place];
            return load > 0 && grains[place] >= load;
        }

        int countDue() {
            int count = 0;
            for (int place = 0; place < slope.size; place++) {
                if (isDue(place)) {
                    count++;
                }
            }
            return count;
        }

        int lowestDue() {
            for (int place = 0; place < slope.size; place++) {
                if (isDue(place)) {
                    return place;
                }
            }
            return NOWHERE;
        }

        int fullestDue() {
            int fullest = NOWHERE;
            for (int place = 0; place < slope.size; place++) {
                if (isDue(place) && (fullest == NOWHERE || grains[place] > grains[fullest])) {
                    fullest = place;
                }
            }
            return fullest;
        }

        boolean stands() {
            return lowestDue() == NOWHERE;
        }

        private int timesAtOnce(int place) {
            if (!isDue(place)) {
                return 0;
            }
            return slope.isOf(place, SHELF) ? grains[place] / slope.loads[place] : 1;
        }

        boolean wouldOverfill(int place) {
            int times = timesAtOnce(place);
            for (int end = 0; end < slope.size; end++) {
                if (grains[end] + (long) times * slope.weights[place][end] > MOST_GRAINS) {
                    return true;
                }
            }
            return false;
        }

        int letSlide(int place) {
            int times = timesAtOnce(place);
            grains[place] -= times * slope.loads[place];
            for (int end = 0; end < slope.size; end++) {
                grains[end] += times * slope.weights[place][end];
            }
            for (int d = 0; d < DITCHES; d++) {
                ditches[d] += (long) times * slope.weights[place][MOST_PLACES + d];
            }
            slid[place] += times;
            return times;
        }

        private boolean isOverfilled() {
            for (int place = 0; place < slope.size; place++) {
                if (grains[place] > MOST_GRAINS) {
                    return true;
                }
            }
            return false;
        }

        /** Slides in manner 0 until it stands; false when that is too much. */
        boolean settle() {
            if (isOverfilled()) {
                return false;
            }
            for (int done = 0; done < MOST_SLIDES_OF_TRIAL; done++) {
                int place = lowestDue();
                if (place == NOWHERE) {
                    return true;
                }
                if (wouldOverfill(place)) {
                    return false;
                }
                letSlide(place);
            }
            return stands();
        }
    }

    /** Tells, in a manner, which due place slides next. */
    private static final class Chooser {
        private final Slope slope;
        private final Heap heap;
        private final int[] order = new int[MOST_PLACES];
        private final int[] row = new int[MOST_PLACES];
        private int rowSize;
        private int manner = LOWEST;
        private long seed = 1;

        Chooser(Slope slope, Heap heap) {
            this.slope = slope;
            this.heap = heap;
        }

        void clear() {
            rowSize = 0;
            manner = LOWEST;
            seed = 1;
        }

        void takeOrder(Queue told) {
            System.arraycopy(told.numbers, 0, order, 0, MOST_PLACES);
        }

        int chooseNext() {
            int count = heap.countDue();
            if (count == 0) {
                return NOWHERE;
            }
            switch (manner) {
                case FULLEST:
                    return heap.fullestDue();
                case IN_ORDER:
                    return firstInOrder();
                case LOTS:
                    return drawLot(count);
                case ASKED:
                    return askOn();
                default:
                    return heap.lowestDue();
            }
        }

        private int firstInOrder() {
            for (int i = 0; i < slope.size; i++) {
                if (heap.isDue(order[i])) {
                    return order[i];
                }
            }
            return NOWHERE;
        }

        private int drawLot(int count) {
            seed = (seed * LOT_FACTOR + LOT_STEP) % LOT_RANGE;
            long ahead = count > 0 ? (seed / LOT_CUT) % count : 0;
            for (int place = 0; place < slope.size; place++) {
                if (heap.isDue(place)) {
                    if (ahead == 0) {
                        return place;
                    }
                    ahead--;
                }
            }
            return NOWHERE;
        }

        /** The rest of the row and then all places once: that is sure to come upon one that is due. */
        private int askOn() {
            for (int asked = 0; asked < 2 * MOST_PLACES; asked++) {
                if (rowSize == 0) {
                    askAll();
                }
                int place = takeFirst();
                if (heap.isDue(place)) {
                    return place;
                }
            }
            return NOWHERE;
        }

        private void askAll() {
            for (int place = 0; place < slope.size; place++) {
                row[place] = place;
            }
            rowSize = slope.size;
        }

        private int takeFirst() {
            int first = row[0];
            for (int i = 1; i < rowSize; i++) {
                row[i - 1] = row[i];
            }
            rowSize = Math.max(0, rowSize - 1);
            return first;
        }

        void hearOfSlide(int place) {
            if (manner != ASKED) {
                return;
            }
            if (slope.isOf(place, LOOSE)) {
                askAhead(place);
            } else {
                askBehind(place);
            }
        }

        private void askBehind(int place) {
            for (int end = 0; end < slope.size; end++) {
                if (isNewEnd(place, end)) {
                    row[rowSize] = end;
                    rowSize++;
                }
            }
        }

        /** From the highest down, so that the lowest comes to be first. */
        private void askAhead(int place) {
            for (int end = slope.size - 1; end >= 0; end--) {
                if (isNewEnd(place, end)) {
                    for (int i = rowSize; i > 0; i--) {
                        row[i] = row[i - 1];
                    }
                    row[0] = end;
                    rowSize++;
                }
            }
        }

        /** No place is in the row twice, so a row with a new end still to come is never full. */
        private boolean isNewEnd(int place, int end) {
            if (slope.weights[place][end] == 0 || rowSize >= MOST_PLACES) {
                return false;
            }
            for (int i = 0; i < rowSize; i++) {
                if (row[i] == end) {
                    return false;
                }
            }
            return true;
        }
    }

    /** What undo() brings back of one moment. */
    private static final class Moment {
        private final int[] grains = new int[MOST_PLACES];
        private final long[] ditches = new long[DITCHES];
        private final long[] slid = new long[MOST_PLACES];
        private final int[] row = new int[MOST_PLACES];
        private int rowSize;
        private long seed;

        void takeFrom(Heap heap, Chooser chooser) {
            System.arraycopy(heap.grains, 0, grains, 0, MOST_PLACES);
            System.arraycopy(heap.ditches, 0, ditches, 0, DITCHES);
            System.arraycopy(heap.slid, 0, slid, 0, MOST_PLACES);
            System.arraycopy(chooser.row, 0, row, 0, MOST_PLACES);
            rowSize = chooser.rowSize;
            seed = chooser.seed;
        }

        void giveTo(Heap heap, Chooser chooser) {
            System.arraycopy(grains, 0, heap.grains, 0, MOST_PLACES);
            System.arraycopy(ditches, 0, heap.ditches, 0, DITCHES);
            System.arraycopy(slid, 0, heap.slid, 0, MOST_PLACES);
            System.arraycopy(row, 0, chooser.row, 0, MOST_PLACES);
            chooser.rowSize = rowSize;
            chooser.seed = seed;
        }
    }

    /** The latest moments, in a ring, so that the oldest gives way to the newest. */
    private static final class History {
        private final Moment[] ring = new Moment[MOST_UNDONE];
        private int next;
        private int count;

        History() {
            for (int i = 0; i < MOST_UNDONE; i++) {
                ring[i] = new Moment();
            }
        }

        void clear() {
            next = 0;
            count = 0;
        }

        void note(Heap heap, Chooser chooser) {
            ring[next].takeFrom(heap, chooser);
            next = (next + 1) % MOST_UNDONE;
            count = Math.min(count + 1, MOST_UNDONE);
        }

        void goBack(Heap heap, Chooser chooser) {
            if (count > 0) {
                next = (next + MOST_UNDONE - 1) % MOST_UNDONE;
                count--;
                ring[next].giveTo(heap, chooser);
            }
        }
    }

    /** Which places burnt, in their order, and which did not. */
    private static final class Fire {
        private final int[] order = new int[MOST_PLACES];
        private int count;
        private int unburnt;

        void clear() {
            count = 0;
            unburnt = 0;
        }

        /** A place may be held back (NOWHERE: none is): that one never burns. */
        void light(Slope slope, int[] grains, int heldBack) {
            count = 0;
            unburnt = slope.bitsOfAll();
            for (int round = 0; round < slope.size; round++) {
                int place = nextToBurn(slope, grains, heldBack);
                if (place == NOWHERE) {
                    return;
                }
                order[count] = place;
                count++;
                unburnt &= ~(1 << place);
            }
        }

        private int nextToBurn(Slope slope, int[] grains, int heldBack) {
            for (int place = 0; place < slope.size; place++) {
                boolean burns = (unburnt & (1 << place)) == 0;
                if (!burns && place != heldBack
                        && grains[place] >= slope.weightToPlaces(place, unburnt)) {
                    return place;
                }
            }
            return NOWHERE;
        }
    }

    /**
     * All rows that come again, in order.
     *
     * <p>A row that comes again still does with more grains (as long as it stands). So the first
     * places of a row can be gone on with just when they can with all later places as full as
     * they may be; and no try is ever in vain, however many rows there are that don't come again.
     */
    private static final class Roster {
        private final Fire fire = new Fire();
        private final int[] row = new int[MOST_PLACES];
        private final int[] rows = new int[MOST_ROWS * MOST_PLACES];
        private int count;

        void clear() {
            count = 0;
        }

        int grainsOf(int i, int place) {
            return rows[i * MOST_PLACES + place];
        }

        /**
         * False when there are too many. No rows of before are lost by that: a slope that has
         * begun has the same rows always, so if they are too many none have been listed yet.
         */
        boolean gather(Slope slope) {
            leastFrom(slope, 0);
            for (int i = 0; i < MOST_ROWS; i++) {
                System.arraycopy(row, 0, rows, i * MOST_PLACES, MOST_PLACES);
                if (!stepOn(slope)) {
                    count = i + 1;
                    return true;
                }
            }
            return false;
        }

        /** Gives the places from one on the least grains with which the row comes again. */
        private void leastFrom(Slope slope, int first) {
            for (int place = first; place < slope.size; place++) {
                row[place] = slope.loads[place] - 1;
            }
            for (int place = first; place < slope.size; place++) {
                fire.light(slope, row, place);
                row[place] = slope.weightToPlaces(place, fire.unburnt);
            }
        }

        /** False when the row was the last one. */
        private boolean stepOn(Slope slope) {
            for (int place = slope.size - 1; place >= 0; place--) {
                if (row[place] < slope.loads[place] - 1) {
                    row[place]++;
                    leastFrom(slope, place + 1);
                    return true;
                }
            }
            return false;
        }
    }

    /** Counts rows that come again: they are as many as the determinant of loads less weights. */
    private static final class Tally {
        private final long[][] matrix = new long[MOST_PLACES][MOST_PLACES];

        int countRows(Slope slope, int p) {
            if (p < 2) {
                return 0;
            }
            fill(slope, p);
            long product = 1;
            for (int column = 0; column < slope.size; column++) {
                int pivot = pivotOf(column, slope.size);
                if (pivot == NOWHERE) {
                    return 0;
                }
                if (pivot != column) {
                    swapRows(pivot, column, slope.size);
                    product = p - product;
                }
                product = product * matrix[column][column] % p;
                clearBelow(column, slope.size, p);
            }
            return (int) product;
        }

        private void fill(Slope slope, int p) {
            for (int place = 0; place < slope.size; place++) {
                for (int end = 0; end < slope.size; end++) {
                    int entry = place == end ? slope.loads[place] : -slope.weights[place][end];
                    matrix[place][end] = Math.floorMod(entry, p);
                }
            }
        }

        private int pivotOf(int column, int size) {
            for (int line = column; line < size; line++) {
                if (matrix[line][column] != 0) {
                    return line;
                }
            }
            return NOWHERE;
        }

        private void swapRows(int one, int other, int size) {
            for (int column = 0; column < size; column++) {
                long held = matrix[one][column];
                matrix[one][column] = matrix[other][column];
                matrix[other][column] = held;
            }
        }

        private void clearBelow(int column, int size, int p) {
            long inverse = power(matrix[column][column], p - 2, p);
            for (int line = column + 1; line < size; line++) {
                long factor = matrix[line][column] * inverse % p;
                for (int i = column; i < size; i++) {
                    long less = matrix[line][i] - factor * matrix[column][i] % p;
                    matrix[line][i] = less < 0 ? less + p : less;
                }
            }
        }

        private static long power(long base, int exponent, int p) {
            long result = 1;
            long square = base;
            for (int left = exponent; left > 0; left >>= 1) {
                if ((left & 1) != 0) {
                    result = result * square % p;
                }
                square = square * square % p;
            }
            return result;
        }
    }

    /** A row of whole numbers of some bits; of 0 bits: MISSING. */
    private static final class Terrace {
        private final long[] numbers = new long[MOST_NUMBERS];
        private int bits;
        private int length;

        boolean isMissing() {
            return bits == 0;
        }

        int build(int newBits, int n) {
            for (int i = 0; i < MOST_NUMBERS; i++) {
                numbers[i] = 0;
            }
            bits = newBits;
            length = newBits == 0 ? 0 : n;
            return length;
        }

        /** Shifting up and down again leaves the lowest bits, with the highest of them as sign. */
        long store(int i, long v) {
            int unused = LONG_BITS - bits;
            numbers[i] = (v << unused) >> unused;
            return numbers[i];
        }
    }

    /** The numbers that wait. */
    private static final class Queue {
        private final int[] numbers = new int[MOST_WAITING];
        private int size;

        void clear() {
            size = 0;
        }

        int add(int v) {
            numbers[size] = v;
            size++;
            return size;
        }

        /** Whether they are all of so many places, each once. */
        boolean isOrderOf(int places) {
            if (size != places || places > MOST_PLACES) {
                return false;
            }
            int seen = 0;
            for (int i = 0; i < size; i++) {
                if (numbers[i] < 0 || numbers[i] >= places || (seen & (1 << numbers[i])) != 0) {
                    return false;
                }
                seen |= 1 << numbers[i];
            }
            return true;
        }
    }
}
