/** A hall of levers by which water goes between basins; ../shared/DOC.md says what each call promises. */
public final class LeverHall {
    public static final int BAD = -1, NONE = -2, SHORT = -3, INDEX = -4, ZERO = -5, MISSING = -6, FULL = -7, TIRED = -8, DEEP = -9;

    private static final int CONSTANT = 0, SET = 1, ADD = 2, DRAW = 3, MARK = 4, PART = 5, SNAP = 6;
    private static final int THEN = 7, WHEN = 8, TIMES = 9, TRY = 10, LATER = 11, COUNT = 12, PULL = 13, LOOK = 14;

    private static final int BASINS = 10, GAUGES = 3, MOST_MARKS = 6, SLOTS = 20, LEVERS = 5, PLACES = 4;
    private static final int MOST_TIMES = 5, MOST_WAITING = 12, MOST_STEPS = 60, MOST_OPEN = 16;

    private static final int TOLD_MADE = 0, TOLD_WAITING = 1, TOLD_STEPS = 2, TOLD_FAILURES = 3, TOLD_SLOTS = 4;

    private final int[] basins = new int[BASINS];
    /** A row that is null is a gauge of no places. */
    private final int[][] gauges = new int[GAUGES][];
    private final Deed[] slots = new Deed[SLOTS];
    /** The places of lever 0, then those of lever 1, and so on: arrays of deeds have one dimension. */
    private final Deed[] places = new Deed[LEVERS * PLACES];

    /** A ring: what waits longest is at head, with its power at the same index of powers. */
    private final Deed[] queue = new Deed[MOST_WAITING];
    private final int[] powers = new int[MOST_WAITING];
    private int head = 0;
    private int waiting = 0;

    private int made = 0;
    private int steps = 0;
    private int failures = 0;
    /** Why what is being done fails; 0 as long as it does not. */
    private int why = 0;
    /** What failed() answers: of a tick, a deed that does well does not take the reason of an earlier one away. */
    private int latest = 0;

    public LeverHall() {
    }

    // ---- the hall

    public int fill(int basin, int v) {
        int before = heldBy(basin);
        pour(basin, v);
        return before;
    }

    public int basin(int k) {
        return heldBy(k);
    }

    public int gauge(int g, int n) {
        if (!isGauge(g) || n < 0 || n > MOST_MARKS) {
            return BAD;
        }
        // Always a new row: deeds may hold the old one.
        gauges[g] = new int[n];
        return 1;
    }

    public int mark(int g, int i) {
        int[] row = gaugeNow(g);
        return hasMark(row, i) ? row[i] : 0;
    }

    // ---- deeds

    public int deed(int slot, int kind, int x, int y, int z) {
        if (!isSlot(slot) || !namesWhatThereIs(kind, x, y, z)) {
            return BAD;
        }
        Deed first = holdsFirst(kind) ? inSlot(x) : null;
        Deed second = holdsSecond(kind) ? inSlot(y) : null;
        if (holdsFirst(kind) && first == null || holdsSecond(kind) && second == null) {
            return NONE;
        }
        int[] gauge = kind == MARK ? gaugeNow(x) : null;
        // A snap needs what its basin holds now, and never the basin again.
        int number = kind == SNAP ? heldBy(x) : x;
        slots[slot] = new Deed(kind, number, y, z, first, second, gauge);
        made++;
        return made;
    }

    public int copy(int from, int to) {
        if (!isSlot(from) || !isSlot(to)) {
            return BAD;
        }
        if (slots[from] == null) {
            return NONE;
        }
        slots[to] = slots[from];
        return 1;
    }

    public int drop(int slot) {
        if (!isSlot(slot)) {
            return BAD;
        }
        if (slots[slot] == null) {
            return NONE;
        }
        slots[slot] = null;
        return 1;
    }

    public int lever(int lever, int place, int slot) {
        if (!isLever(lever) || place < 0 || place >= PLACES || slot != -1 && !isSlot(slot)) {
            return BAD;
        }
        Deed deed = inSlot(slot);
        if (slot != -1 && deed == null) {
            return NONE;
        }
        places[lever * PLACES + place] = deed;
        return 1;
    }

    public int same(int a, int b) {
        if (!isSlot(a) || !isSlot(b)) {
            return BAD;
        }
        return slots[a] != null && slots[a] == slots[b] ? 1 : 0;
    }

    public int count(int slot) {
        if (!isSlot(slot)) {
            return BAD;
        }
        Deed deed = slots[slot];
        return deed != null && deed.kind == COUNT ? deed.times : NONE;
    }

    // ---- doing

    public int act(int slot, int p) {
        if (!isSlot(slot)) {
            return refuse(BAD);
        }
        if (slots[slot] == null) {
            return refuse(NONE);
        }
        begin();
        int given = doDeed(slots[slot], p, 0);
        noteFailure();
        return given;
    }

    public int pull(int lever, int p) {
        if (!isLever(lever)) {
            return refuse(BAD);
        }
        begin();
        int given = doPlaces(lever, p, 0);
        noteFailure();
        return given;
    }

    public int tick() {
        begin();
        int now = waiting;
        int well = 0;
        for (int i = 0; i < now; i++) {
            why = 0;
            doLongestWaiting();
            noteFailure();
            if (why == 0) {
                well++;
            }
        }
        return well;
    }

    public int failed() {
        return latest;
    }

    public int told(int what) {
        switch (what) {
            case TOLD_MADE:
                return made;
            case TOLD_WAITING:
                return waiting;
            case TOLD_STEPS:
                return steps;
            case TOLD_FAILURES:
                return failures;
            case TOLD_SLOTS:
                return slotsInUse();
            default:
                return BAD;
        }
    }

    public int clear() {
        int before = made;
        emptyHall();
        emptyDeeds();
        head = 0;
        waiting = 0;
        made = 0;
        failures = 0;
        begin();
        return before;
    }

    // ---- what there is

    private static boolean isBasin(int k) {
        return k >= 0 && k < BASINS;
    }

    private static boolean isGauge(int g) {
        return g >= 0 && g < GAUGES;
    }

    private static boolean isSlot(int slot) {
        return slot >= 0 && slot < SLOTS;
    }

    private static boolean isLever(int lever) {
        return lever >= 0 && lever < LEVERS;
    }

    private static boolean hasMark(int[] row, int i) {
        return row != null && i >= 0 && i < row.length;
    }

    private int heldBy(int basin) {
        return isBasin(basin) ? basins[basin] : 0;
    }

    private void pour(int basin, int v) {
        if (isBasin(basin)) {
            basins[basin] = v;
        }
    }

    private int[] gaugeNow(int g) {
        return isGauge(g) ? gauges[g] : null;
    }

    private Deed inSlot(int slot) {
        return isSlot(slot) ? slots[slot] : null;
    }

    private Deed atPlace(int lever, int place) {
        return isLever(lever) && place >= 0 && place < PLACES ? places[lever * PLACES + place] : null;
    }

    private int slotsInUse() {
        int n = 0;
        for (int i = 0; i < SLOTS; i++) {
            if (slots[i] != null) {
                n++;
            }
        }
        return n;
    }

    private void emptyHall() {
        for (int i = 0; i < BASINS; i++) {
            basins[i] = 0;
        }
        for (int i = 0; i < GAUGES; i++) {
            gauges[i] = null;
        }
    }

    private void emptyDeeds() {
        for (int i = 0; i < SLOTS; i++) {
            slots[i] = null;
        }
        for (int i = 0; i < LEVERS * PLACES; i++) {
            places[i] = null;
        }
        for (int i = 0; i < MOST_WAITING; i++) {
            queue[i] = null;
        }
    }

    // ---- what deeds are made of

    private static boolean namesWhatThereIs(int kind, int x, int y, int z) {
        switch (kind) {
            case CONSTANT:
            case PART:
                return true;
            case SET:
            case ADD:
            case SNAP:
                return isBasin(x);
            case DRAW:
                return isBasin(x) && isBasin(y);
            case MARK:
                return isGauge(x);
            case THEN:
            case TRY:
                return isSlot(x) && isSlot(y);
            case WHEN:
                return isSlot(x) && isSlot(y) && isBasin(z);
            case TIMES:
                return isSlot(x) && y >= 0 && y <= MOST_TIMES;
            case LATER:
            case COUNT:
            case LOOK:
                return isSlot(x);
            case PULL:
                return isLever(x);
            default:
                return false;
        }
    }

    private static boolean holdsFirst(int kind) {
        return kind >= THEN && kind <= COUNT;
    }

    private static boolean holdsSecond(int kind) {
        return kind == THEN || kind == WHEN || kind == TRY;
    }

    // ---- how a doing begins and ends

    private int refuse(int reason) {
        steps = 0;
        latest = reason;
        return 0;
    }

    private void begin() {
        steps = 0;
        why = 0;
        latest = 0;
    }

    private void noteFailure() {
        if (why != 0) {
            failures++;
            latest = why;
        }
    }

    /** Answers 0, so that what fails gives 0 all the way out. */
    private int fail(int reason) {
        why = reason;
        return 0;
    }

    private void doLongestWaiting() {
        Deed deed = queue[head];
        int p = powers[head];
        // Out of the queue first: the deed may want its place again.
        queue[head] = null;
        head = (head + 1) % MOST_WAITING;
        waiting--;
        doDeed(deed, p, 0);
    }

    // ---- doing a deed: open tells how many deeds have not given yet; why is 0 whenever one is begun

    private int doDeed(Deed deed, int p, int open) {
        if (steps >= MOST_STEPS) {
            return fail(TIRED);
        }
        steps++;
        if (open >= MOST_OPEN) {
            return fail(DEEP);
        }
        if (deed == null) {
            return fail(MISSING);
        }
        return deed.kind < THEN ? doAlone(deed, p) : doThroughOthers(deed, p, open + 1);
    }

    private int doAlone(Deed deed, int p) {
        switch (deed.kind) {
            case CONSTANT:
                return deed.x;
            case SET:
                return doSet(deed, p);
            case ADD:
                return doAdd(deed, p);
            case DRAW:
                return doDraw(deed, p);
            case MARK:
                return doMark(deed, p);
            case PART:
                return deed.x == 0 ? fail(ZERO) : p / deed.x;
            case SNAP:
                return p + deed.x;
            default:
                return fail(MISSING);
        }
    }

    private int doThroughOthers(Deed deed, int p, int open) {
        switch (deed.kind) {
            case THEN:
                return doThen(deed, p, open);
            case WHEN:
                return doDeed(heldBy(deed.z) > p ? deed.second : deed.first, p, open);
            case TIMES:
                return doTimes(deed, p, open);
            case TRY:
                return doTry(deed, p, open);
            case LATER:
                return doLater(deed, p);
            case COUNT:
                return doCount(deed, p, open);
            case PULL:
                return doPlaces(deed.x, p, open);
            case LOOK:
                return doDeed(inSlot(deed.x), p, open);
            default:
                return fail(MISSING);
        }
    }

    private int doSet(Deed deed, int p) {
        int before = heldBy(deed.x);
        pour(deed.x, p);
        return before;
    }

    private int doAdd(Deed deed, int p) {
        pour(deed.x, heldBy(deed.x) + p * deed.y);
        return heldBy(deed.x);
    }

    private int doDraw(Deed deed, int p) {
        if (p < 0 || p > heldBy(deed.x)) {
            return fail(SHORT);
        }
        // One after the other, as both may be the same basin.
        pour(deed.x, heldBy(deed.x) - p);
        pour(deed.y, heldBy(deed.y) + p);
        return heldBy(deed.x);
    }

    private int doMark(Deed deed, int p) {
        int[] row = deed.gauge;
        if (!hasMark(row, deed.y)) {
            return fail(INDEX);
        }
        row[deed.y] += p;
        return row[deed.y];
    }

    private int doThen(Deed deed, int p, int open) {
        int given = doDeed(deed.first, p, open);
        return why == 0 ? doDeed(deed.second, given, open) : 0;
    }

    private int doTimes(Deed deed, int p, int open) {
        int given = p;
        for (int i = 0; i < deed.y && why == 0; i++) {
            given = doDeed(deed.first, given, open);
        }
        return given;
    }

    private int doTry(Deed deed, int p, int open) {
        int given = doDeed(deed.first, p, open);
        if (why == 0 || why == TIRED || why == DEEP) {
            return given;
        }
        why = 0;
        return doDeed(deed.second, p, open);
    }

    private int doLater(Deed deed, int p) {
        if (waiting >= MOST_WAITING) {
            return fail(FULL);
        }
        int end = (head + waiting) % MOST_WAITING;
        queue[end] = deed.first;
        powers[end] = p;
        waiting++;
        return waiting;
    }

    private int doCount(Deed deed, int p, int open) {
        doDeed(deed.first, p, open);
        if (why != 0) {
            return 0;
        }
        deed.times++;
        return deed.times;
    }

    private int doPlaces(int lever, int p, int open) {
        int given = p;
        for (int place = 0; place < PLACES && why == 0; place++) {
            given = doDeed(atPlace(lever, place), given, open);
        }
        return given;
    }

    /** What a making made; what it holds never changes, only how often a COUNT was done. */
    private static final class Deed {
        private final int kind;
        private final int x;
        private final int y;
        private final int z;
        private final Deed first;
        private final Deed second;
        private final int[] gauge;
        private int times = 0;

        private Deed(int kind, int x, int y, int z, Deed first, Deed second, int[] gauge) {
            this.kind = kind;
            this.x = x;
            this.y = y;
            this.z = z;
            this.first = first;
            this.second = second;
            this.gauge = gauge;
        }
    }
}
