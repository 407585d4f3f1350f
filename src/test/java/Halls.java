/** Halls and deeds that many tests need. */
final class Halls {
    static final int LOW = Integer.MIN_VALUE, HIGH = Integer.MAX_VALUE;
    /** The first slots that there are not, and the furthest; likewise the others. */
    static final int[] NO_SLOTS = {-1, 20, LOW, HIGH};
    static final int[] NO_BASINS = {-1, 10, LOW, HIGH};
    static final int[] NO_GAUGES = {-1, 3, LOW, HIGH};
    static final int[] NO_LEVERS = {-1, 5, LOW, HIGH};
    static final int[] NO_PLACES = {-1, 4, LOW, HIGH};
    static final int[] NO_TIMES = {-1, 6, LOW, HIGH};
    static final int[] NO_KINDS = {-1, 15, LOW, HIGH};

    private Halls() {
    }

    /** Puts a deed into a slot that takes n steps and gives 1; the 6 slots behind it are used for its parts. */
    static void takesSteps(LeverHall x, int slot, int n) {
        if (n == 1) {
            x.deed(slot, 0, 1, 0, 0);
        } else if (n == 2) {
            takesSteps(x, slot, 1);
            around(x, slot, 1);
        } else {
            int first = (n - 1) / 2;
            takesSteps(x, slot, first);
            takesSteps(x, slot + 1, n - 1 - first);
            x.deed(slot, 7, slot, slot + 1, 0);
        }
    }

    /** Puts n deeds more around the one in a slot: each has not given before the one in it gave. */
    static void around(LeverHall x, int slot, int n) {
        for (int i = 0; i < n; i++) {
            x.deed(slot, 9, slot, 1, 0);
        }
    }

    /** Lets the deed in slot from wait n times with p, by a LATER in slot by. */
    static void waits(LeverHall x, int from, int by, int n, int p) {
        x.deed(by, 11, from, 0, 0);
        for (int i = 0; i < n; i++) {
            x.act(by, p);
        }
    }

    /** Puts the deed in a slot at all places of a lever. */
    static void everyPlace(LeverHall x, int lever, int slot) {
        for (int place = 0; place < 4; place++) {
            x.lever(lever, place, slot);
        }
    }

    /** A hall with something of everything: a deed of kind k in slot k, a copy in 15, none in 16 .. 19. */
    static LeverHall furnished() {
        LeverHall x = new LeverHall();
        for (int k = 0; k < 10; k++) {
            x.fill(k, 11 * k + 5);
        }
        x.gauge(0, 6);
        x.gauge(1, 2);
        int[][] numbers = {
            {-4, 0, 0}, {1, 0, 0}, {2, 3, 0}, {9, 0, 0}, {0, 5, 0}, {0, 0, 0}, {6, 0, 0},
            {2, 3, 0}, {2, 4, 8}, {2, 3, 0}, {5, 4, 0}, {2, 0, 0}, {2, 0, 0}, {0, 0, 0}, {2, 0, 0}};
        for (int kind = 0; kind <= 14; kind++) {
            x.deed(kind, kind, numbers[kind][0], numbers[kind][1], numbers[kind][2]);
        }
        x.copy(12, 15);
        int[] row = {2, 6, 12, 4};
        for (int place = 0; place < 4; place++) {
            x.lever(0, place, row[place]);
            x.lever(4, place, row[3 - place]);
        }
        x.lever(1, 0, 2);
        x.act(12, 1);
        x.act(15, 1);
        x.act(4, 7);
        x.act(11, 3);
        x.act(11, -2);
        // a THEN whose DRAW falls SHORT: failed(), told(2) and told(3) are not 0
        x.act(7, 1000);
        return x;
    }
}
