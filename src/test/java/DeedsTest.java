/** Promises 6 to 11: deed, copy, drop, lever, same, count. */
public final class DeedsTest {
    private static final int LOW = Integer.MIN_VALUE, HIGH = Integer.MAX_VALUE;
    private static final int[] NO_SLOTS = {-1, 20, LOW, HIGH};

    public static void main(String[] args) {
        Check check = new Check();
        deedsOfAnyNumber(check);
        deedRefusedBad(check);
        deedRefusedNone(check);
        badIsAheadOfNone(check, new LeverHall());
        refusedDeedChangesNothing(check, new LeverHall());
        makingIsNew(check, new LeverHall());
        everySlot(check, new LeverHall());
        copyAndDrop(check, new LeverHall());
        leverPlaces(check, new LeverHall());
        leverRefused(check, new LeverHall());
        sameDeeds(check, new LeverHall());
        counts(check, new LeverHall());
        check.end();
    }

    /** A hall with a CONSTANT in every slot but the last. */
    private static LeverHall furnished() {
        LeverHall x = new LeverHall();
        for (int slot = 0; slot < 19; slot++) {
            x.deed(slot, 0, 100 + slot, 0, 0);
        }
        return x;
    }

    private static void good(Check check, int kind, int x, int y, int z) {
        LeverHall hall = furnished();
        check.due("deed(0, " + kind + ", " + x + ", " + y + ", " + z + ")", hall.deed(0, kind, x, y, z), 20);
    }

    private static void refused(Check check, int want, int kind, int x, int y, int z) {
        LeverHall hall = furnished();
        check.due("deed(0, " + kind + ", " + x + ", " + y + ", " + z + ")", hall.deed(0, kind, x, y, z), want);
        check.due("made", hall.told(0), 19);
        check.due("what was there stays", hall.act(0, 1), 100);
    }

    private static void deedsOfAnyNumber(Check check) {
        for (int any : new int[] {0, -1, 99, LOW, HIGH}) {
            good(check, 0, any, any, any);
            good(check, 1, 9, any, any);
            good(check, 2, 9, any, any);
            good(check, 3, 9, 0, any);
            good(check, 4, 2, any, any);
            good(check, 5, any, any, any);
            good(check, 6, 9, any, any);
            good(check, 7, 18, 0, any);
            good(check, 8, 0, 18, 9);
            good(check, 9, 18, 0, any);
            good(check, 9, 18, 5, any);
            good(check, 10, 0, 18, any);
            good(check, 11, 18, any, any);
            good(check, 12, 18, any, any);
            good(check, 13, 4, any, any);
            good(check, 14, 19, any, any);
        }
    }

    private static void deedRefusedBad(Check check) {
        for (int basin : new int[] {-1, 10, LOW, HIGH}) {
            refused(check, LeverHall.BAD, 1, basin, 0, 0);
            refused(check, LeverHall.BAD, 2, basin, 0, 0);
            refused(check, LeverHall.BAD, 3, basin, 0, 0);
            refused(check, LeverHall.BAD, 3, 0, basin, 0);
            refused(check, LeverHall.BAD, 6, basin, 0, 0);
            refused(check, LeverHall.BAD, 8, 0, 0, basin);
        }
        for (int slot : NO_SLOTS) {
            for (int kind : new int[] {7, 8, 9, 10, 11, 12, 14}) {
                refused(check, LeverHall.BAD, kind, slot, 0, 0);
            }
            for (int kind : new int[] {7, 8, 10}) {
                refused(check, LeverHall.BAD, kind, 0, slot, 0);
            }
            check.due("deed(" + slot + ", 0, ..)", furnished().deed(slot, 0, 0, 0, 0), LeverHall.BAD);
        }
        for (int gauge : new int[] {-1, 3, LOW, HIGH}) {
            refused(check, LeverHall.BAD, 4, gauge, 0, 0);
        }
        for (int times : new int[] {-1, 6, LOW, HIGH}) {
            refused(check, LeverHall.BAD, 9, 0, times, 0);
        }
        for (int lever : new int[] {-1, 5, LOW, HIGH}) {
            refused(check, LeverHall.BAD, 13, lever, 0, 0);
        }
        for (int kind : new int[] {-1, 15, LOW, HIGH}) {
            refused(check, LeverHall.BAD, kind, 0, 0, 0);
        }
    }

    private static void deedRefusedNone(Check check) {
        for (int kind = 7; kind <= 12; kind++) {
            refused(check, LeverHall.NONE, kind, 19, 0, 0);
        }
        for (int kind : new int[] {7, 8, 10}) {
            refused(check, LeverHall.NONE, kind, 0, 19, 0);
        }
    }

    private static void badIsAheadOfNone(Check check, LeverHall x) {
        check.due("deed(20, 11, 0, ..)", x.deed(20, 11, 0, 0, 0), LeverHall.BAD);
        check.due("deed(0, 7, 0, 20, 0)", x.deed(0, 7, 0, 20, 0), LeverHall.BAD);
        check.due("deed(0, 8, 0, 0, 10)", x.deed(0, 8, 0, 0, 10), LeverHall.BAD);
        check.due("deed(0, 9, 0, 6, 0)", x.deed(0, 9, 0, 6, 0), LeverHall.BAD);
        check.due("deed(0, 10, 0, -1, 0)", x.deed(0, 10, 0, -1, 0), LeverHall.BAD);
        check.due("copy(0, 20)", x.copy(0, 20), LeverHall.BAD);
        check.due("lever(5, 0, 0)", x.lever(5, 0, 0), LeverHall.BAD);
        check.due("lever(0, 4, 0)", x.lever(0, 4, 0), LeverHall.BAD);
    }

    private static void refusedDeedChangesNothing(Check check, LeverHall x) {
        x.deed(4, 0, 44, 0, 0);
        x.act(3, 0);
        check.due("BAD", x.deed(4, 1, 10, 0, 0), LeverHall.BAD);
        check.due("NONE", x.deed(4, 11, 5, 0, 0), LeverHall.NONE);
        check.due("failed() is that of act()", x.failed(), LeverHall.NONE);
        check.due("made", x.told(0), 1);
        check.due("slots", x.told(4), 1);
        check.due("slot 4", x.act(4, 0), 44);
    }

    private static void makingIsNew(Check check, LeverHall x) {
        check.due("first", x.deed(0, 0, 7, 0, 0), 1);
        check.due("of itself", x.deed(0, 7, 0, 0, 0), 2);
        check.done("THEN of what was there", x, x.act(0, 1), 7, 0, 3);
        x.deed(1, 11, 0, 0, 0);
        x.deed(0, 0, 8, 0, 0);
        x.act(1, 1);
        check.due("who held it goes on with it", x.tick(), 1);
        check.due("steps of what was held", x.told(2), 3);
        check.due("made", x.told(0), 4);
        check.due("slots", x.told(4), 2);
    }

    private static void everySlot(Check check, LeverHall x) {
        for (int slot = 0; slot < 20; slot++) {
            check.due("deed(" + slot + ", ..)", x.deed(slot, 0, 50 + slot, 0, 0), slot + 1);
            check.due("told(4)", x.told(4), slot + 1);
        }
        for (int slot = 0; slot < 20; slot++) {
            check.due("act(" + slot + ", 0)", x.act(slot, 0), 50 + slot);
        }
    }

    private static void copyAndDrop(Check check, LeverHall x) {
        for (int slot : NO_SLOTS) {
            check.due("copy(" + slot + ", 0)", x.copy(slot, 0), LeverHall.BAD);
            check.due("copy(0, " + slot + ")", x.copy(0, slot), LeverHall.BAD);
            check.due("drop(" + slot + ")", x.drop(slot), LeverHall.BAD);
        }
        x.deed(0, 0, 5, 0, 0);
        x.deed(1, 0, 6, 0, 0);
        check.due("copy(2, 0)", x.copy(2, 0), LeverHall.NONE);
        check.due("a refused copy() changes nothing", x.act(0, 0), 5);
        check.due("copy(0, 1)", x.copy(0, 1), 1);
        check.due("slot 1", x.act(1, 0), 5);
        check.due("a copy is no making", x.told(0), 2);
        check.due("copy(0, 19)", x.copy(0, 19), 1);
        check.due("slots", x.told(4), 3);
        check.due("copy(0, 0)", x.copy(0, 0), 1);
        check.due("drop(0)", x.drop(0), 1);
        check.due("drop(0) again", x.drop(0), LeverHall.NONE);
        check.due("slots", x.told(4), 2);
        check.due("slot 1 still", x.act(1, 0), 5);
        check.done("slot 0 no more", x, x.act(0, 0), 0, LeverHall.NONE, 0);
        check.due("a drop makes none unmade", x.told(0), 2);
    }

    private static void leverPlaces(Check check, LeverHall x) {
        for (int k = 0; k < 20; k++) {
            x.deed(k, 6, 0, 0, 0);
            x.fill(0, 1 << k);
        }
        // the SNAP in slot k adds 1 << (k - 1): sums tell which ones a lever has
        for (int k = 0; k < 20; k++) {
            check.due("lever of slot " + k, x.lever(k / 4, k % 4, k), 1);
        }
        for (int k = 0; k < 20; k++) {
            x.drop(k);
        }
        for (int lever = 0; lever < 5; lever++) {
            check.done("pull(" + lever + ", 0)", x, x.pull(lever, 0), (15 << lever * 4) >> 1, 0, 4);
        }
        check.due("lever(2, 3, -1)", x.lever(2, 3, -1), 1);
        check.due("lever(2, 3, -1) again", x.lever(2, 3, -1), 1);
        check.done("pull(2, 0)", x, x.pull(2, 0), 0, LeverHall.MISSING, 4);
        check.done("pull(3, 0)", x, x.pull(3, 0), (15 << 12) >> 1, 0, 4);
    }

    private static void leverRefused(Check check, LeverHall x) {
        x.deed(0, 0, 3, 0, 0);
        for (int place = 0; place < 4; place++) {
            x.lever(0, place, 0);
        }
        for (int no : new int[] {-1, 5, LOW, HIGH}) {
            check.due("lever(" + no + ", 0, 0)", x.lever(no, 0, 0), LeverHall.BAD);
            check.due("lever(" + no + ", 0, -1)", x.lever(no, 0, -1), LeverHall.BAD);
        }
        for (int no : new int[] {-1, 4, LOW, HIGH}) {
            check.due("lever(0, " + no + ", 0)", x.lever(0, no, 0), LeverHall.BAD);
            check.due("lever(0, " + no + ", -1)", x.lever(0, no, -1), LeverHall.BAD);
        }
        for (int no : new int[] {-2, 20, LOW, HIGH}) {
            check.due("lever(0, 0, " + no + ")", x.lever(0, 0, no), LeverHall.BAD);
        }
        check.due("lever(0, 0, 1)", x.lever(0, 0, 1), LeverHall.NONE);
        check.done("a refused lever() changes nothing", x, x.pull(0, 1), 3, 0, 4);
        check.done("nor another lever", x, x.pull(1, 1), 0, LeverHall.MISSING, 1);
    }

    private static void sameDeeds(Check check, LeverHall x) {
        for (int slot : NO_SLOTS) {
            check.due("same(" + slot + ", 0)", x.same(slot, 0), LeverHall.BAD);
            check.due("same(0, " + slot + ")", x.same(0, slot), LeverHall.BAD);
        }
        check.due("none and none", x.same(0, 1), 0);
        check.due("none and itself", x.same(0, 0), 0);
        x.deed(0, 0, 5, 0, 0);
        x.deed(1, 0, 5, 0, 0);
        check.due("itself", x.same(0, 0), 1);
        check.due("one and none", x.same(0, 2), 0);
        check.due("none and one", x.same(2, 0), 0);
        check.due("alike, but two", x.same(0, 1), 0);
        x.copy(0, 2);
        check.due("a copy", x.same(0, 2), 1);
        check.due("a copy, the other way", x.same(2, 0), 1);
        x.deed(0, 0, 5, 0, 0);
        check.due("made anew", x.same(0, 2), 0);
    }

    private static void counts(Check check, LeverHall x) {
        for (int slot : NO_SLOTS) {
            check.due("count(" + slot + ")", x.count(slot), LeverHall.BAD);
        }
        check.due("count of none", x.count(0), LeverHall.NONE);
        x.deed(0, 5, 0, 0, 0);
        x.deed(1, 0, 5, 0, 0);
        for (int kind = 0; kind <= 14; kind++) {
            x.deed(2, kind, 1, 1, 1);
            check.due("count of kind " + kind, x.count(2), kind == 12 ? 0 : LeverHall.NONE);
        }
        x.deed(2, 12, 1, 0, 0);
        x.copy(2, 3);
        x.deed(4, 9, 2, 5, 0);
        check.due("COUNT 5 times", x.act(4, 0), 5);
        check.due("count(2)", x.count(2), 5);
        check.due("count(3), a copy's", x.count(3), 5);
        x.deed(5, 12, 2, 0, 0);
        check.due("a COUNT of a COUNT has its own", x.act(5, 0), 1);
        check.due("count(2)", x.count(2), 6);
        x.deed(6, 12, 0, 0, 0);
        check.done("COUNT of what fails", x, x.act(6, 1), 0, LeverHall.ZERO, 2);
        check.due("count(6)", x.count(6), 0);
    }
}
