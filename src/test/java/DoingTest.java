/** Promises 12 to 17: act, pull, tick, failed, told, clear; steps, TIRED and DEEP. */
public final class DoingTest {
    private static final int LOW = Integer.MIN_VALUE, HIGH = Integer.MAX_VALUE;

    public static void main(String[] args) {
        Check check = new Check();
        actRefused(check, new LeverHall());
        pullRefused(check, new LeverHall());
        pulled(check, new LeverHall());
        tired(check, new LeverHall());
        tiredIsAheadOfDeep(check, new LeverHall());
        tiredIsAheadOfMissing(check, new LeverHall());
        deepByHolding(check, new LeverHall());
        deepByPull(check, new LeverHall());
        deepIsAheadOfMissing(check, new LeverHall());
        deepGoesDownAgain(check, new LeverHall());
        tickOrder(check, new LeverHall());
        tickLeavesWhatComesMeanwhile(check, new LeverHall());
        tickTakesOutAhead(check, new LeverHall());
        tickFailures(check, new LeverHall());
        tickSteps(check, new LeverHall());
        tickGoesRound(check, new LeverHall());
        toldRefused(check, new LeverHall());
        cleared(check, new LeverHall());
        twoObjects(check);
        check.end();
    }

    private static void actRefused(Check check, LeverHall x) {
        x.deed(0, 0, 5, 0, 0);
        for (int slot : new int[] {-1, 20, LOW, HIGH}) {
            x.act(0, 1);
            check.done("act(" + slot + ", 1)", x, x.act(slot, 1), 0, LeverHall.BAD, 0);
        }
        x.act(0, 1);
        check.done("act(1, 1)", x, x.act(1, 1), 0, LeverHall.NONE, 0);
        check.due("what is refused is no failure", x.told(3), 0);
        check.done("act(0, 1)", x, x.act(0, 1), 5, 0, 1);
    }

    private static void pullRefused(Check check, LeverHall x) {
        for (int lever : new int[] {-1, 5, LOW, HIGH}) {
            x.pull(0, 1);
            check.done("pull(" + lever + ", 1)", x, x.pull(lever, 1), 0, LeverHall.BAD, 0);
        }
        check.due("failures of pull(0, 1) alone", x.told(3), 4);
    }

    private static void pulled(Check check, LeverHall x) {
        x.deed(0, 2, 0, 1, 0);
        x.lever(4, 0, 0);
        x.lever(4, 1, 0);
        check.done("pull(4, 1) of two places", x, x.pull(4, 1), 0, LeverHall.MISSING, 3);
        check.due("what was done stays", x.basin(0), 2);
        x.lever(4, 3, 0);
        check.done("pull(4, 0) without place 2", x, x.pull(4, 0), 0, LeverHall.MISSING, 3);
        x.lever(4, 2, 0);
        check.done("pull(4, 1)", x, x.pull(4, 1), 40, 0, 4);
        check.due("failures", x.told(3), 2);
    }

    /** Slot 0 an ADD to basin 0, slot 1 that 5 times, slot 2 that 5 times (31 steps), slot 3 both: 63 steps. */
    private static void makeLong(LeverHall x) {
        x.deed(0, 2, 0, 1, 0);
        x.deed(1, 9, 0, 5, 0);
        x.deed(2, 9, 1, 5, 0);
        x.deed(3, 7, 2, 2, 0);
    }

    private static void tired(Check check, LeverHall x) {
        makeLong(x);
        check.done("63 steps", x, x.act(3, 0), 0, LeverHall.TIRED, 60);
        x.deed(4, 12, 0, 0, 0);
        x.deed(5, 9, 4, 5, 0);
        x.deed(6, 7, 5, 5, 0);
        x.deed(7, 7, 2, 6, 0);
        check.done("1 + 31 + 23 is 55", x, x.act(7, 0), 10, 0, 55);
        x.fill(0, 0);
        x.deed(8, 9, 4, 2, 0);
        x.deed(9, 7, 8, 7, 0);
        check.done("1 + 5 + 55 is 61", x, x.act(9, 0), 0, LeverHall.TIRED, 60);
        check.due("the 60th, a COUNT, did not end well", x.count(4), 10 + 2 + 9);
        x.deed(8, 9, 0, 3, 0);
        x.deed(9, 7, 8, 7, 0);
        check.done("1 + 4 + 55 is 60", x, x.act(9, 0), 31, 0, 60);
        x.deed(10, 9, 9, 1, 0);
        check.done("1 + 60", x, x.act(10, 0), 0, LeverHall.TIRED, 60);
        check.done("a new call begins anew", x, x.act(0, 0), x.basin(0), 0, 1);
        check.due("failures", x.told(3), 3);
    }

    /** Slot 5 is 1 + 31 steps and LOOKs at itself until it is DEEP, slot 6 is 11 steps. */
    private static void makeDeep(LeverHall x) {
        makeLong(x);
        x.deed(4, 14, 4, 0, 0);
        x.deed(5, 7, 2, 4, 0);
        x.deed(6, 9, 0, 4, 0);
        x.deed(6, 9, 6, 2, 0);
    }

    private static void tiredIsAheadOfDeep(Check check, LeverHall x) {
        makeDeep(x);
        check.done("1 + 31 + 15 + 1", x, x.act(5, 0), 0, LeverHall.DEEP, 48);
        // in a THEN slot 5 is one deeper, so it takes one step less
        x.deed(7, 9, 6, 1, 0);
        x.deed(8, 7, 7, 5, 0);
        check.done("DEEP: 1 + 12 + 47 is 60", x, x.act(8, 0), 0, LeverHall.DEEP, 60);
        x.deed(7, 7, 0, 6, 0);
        x.deed(8, 7, 7, 5, 0);
        check.done("TIRED: 1 + 13 + 47 is 61", x, x.act(8, 0), 0, LeverHall.TIRED, 60);
    }

    private static void tiredIsAheadOfMissing(Check check, LeverHall x) {
        makeLong(x);
        x.deed(4, 14, 19, 0, 0);
        x.deed(5, 7, 1, 1, 0);
        x.deed(6, 7, 5, 5, 0);
        x.deed(7, 7, 2, 6, 0);
        x.deed(7, 7, 7, 4, 0);
        check.done("1 + 1 + 31 + 27, and LOOK", x, x.act(7, 0), 0, LeverHall.TIRED, 60);
        x.deed(6, 7, 5, 1, 0);
        x.deed(7, 7, 2, 6, 0);
        x.deed(7, 7, 7, 4, 0);
        check.done("1 + 1 + 31 + 20 + 2", x, x.act(7, 0), 0, LeverHall.MISSING, 55);
        x.deed(8, 9, 0, 4, 0);
        x.deed(9, 9, 0, 3, 0);
        x.deed(8, 7, 8, 7, 0);
        check.done("TIRED: 1 + 5 + 55 is 61", x, x.act(8, 0), 0, LeverHall.TIRED, 60);
        x.deed(9, 7, 9, 7, 0);
        check.done("MISSING: 1 + 4 + 55 is 60", x, x.act(9, 0), 0, LeverHall.MISSING, 60);
    }

    private static void deepByHolding(Check check, LeverHall x) {
        x.deed(0, 2, 0, 1, 0);
        for (int open = 1; open <= 15; open++) {
            x.deed(0, 9, 0, 1, 0);
        }
        check.done("16 open", x, x.act(0, 4), 4, 0, 16);
        x.deed(1, 9, 0, 1, 0);
        check.done("17 open", x, x.act(1, 4), 0, LeverHall.DEEP, 17);
        check.due("the 17th is not done", x.basin(0), 4);
    }

    private static void deepByPull(Check check, LeverHall x) {
        x.deed(0, 2, 0, 1, 0);
        for (int open = 1; open <= 15; open++) {
            x.deed(0, 9, 0, 1, 0);
        }
        x.deed(2, 0, 3, 0, 0);
        x.lever(0, 0, 0);
        for (int place = 1; place < 4; place++) {
            x.lever(0, place, 2);
        }
        check.done("pull() does not count for DEEP", x, x.pull(0, 4), 3, 0, 19);
        x.deed(3, 13, 0, 0, 0);
        check.done("PULL does", x, x.act(3, 4), 0, LeverHall.DEEP, 17);
        x.lever(1, 0, 3);
        check.done("PULL in a pull() does", x, x.pull(1, 4), 0, LeverHall.DEEP, 17);
    }

    private static void deepIsAheadOfMissing(Check check, LeverHall x) {
        x.deed(0, 14, 19, 0, 0);
        for (int open = 1; open <= 14; open++) {
            x.deed(0, 9, 0, 1, 0);
        }
        check.done("MISSING as the 16th", x, x.act(0, 4), 0, LeverHall.MISSING, 16);
        x.deed(1, 9, 0, 1, 0);
        check.done("MISSING as the 17th", x, x.act(1, 4), 0, LeverHall.DEEP, 17);
        x.deed(2, 0, 6, 0, 0);
        x.deed(3, 10, 0, 2, 0);
        check.done("TRY of MISSING as the 17th", x, x.act(3, 4), 0, LeverHall.DEEP, 17);
    }

    private static void deepGoesDownAgain(Check check, LeverHall x) {
        x.deed(0, 2, 0, 1, 0);
        for (int open = 1; open <= 13; open++) {
            x.deed(0, 9, 0, 1, 0);
        }
        x.deed(1, 9, 0, 3, 0);
        check.done("15 open three times", x, x.act(1, 1), 4, 0, 43);
        x.deed(2, 5, 0, 0, 0);
        for (int open = 1; open <= 13; open++) {
            x.deed(2, 9, 2, 1, 0);
        }
        x.deed(3, 10, 2, 0, 0);
        x.deed(4, 7, 3, 3, 0);
        check.done("what failed is not open any more", x, x.act(4, 1), 10, 0, 59);
    }

    private static void tickOrder(Check check, LeverHall x) {
        check.done("tick() of none", x, x.tick(), 0, 0, 0);
        x.deed(0, 1, 0, 0, 0);
        x.deed(1, 11, 0, 0, 0);
        x.deed(2, 2, 0, 10, 0);
        x.deed(3, 11, 2, 0, 0);
        x.act(1, 7);
        x.act(3, 2);
        x.drop(0);
        x.drop(2);
        check.done("tick(): SET, then ADD", x, x.tick(), 2, 0, 2);
        check.due("basin(0)", x.basin(0), 27);
        x.act(3, 2);
        x.act(1, 7);
        check.done("tick(): ADD, then SET", x, x.tick(), 2, 0, 2);
        check.due("basin(0)", x.basin(0), 7);
        check.due("none waits", x.told(1), 0);
        check.done("tick() again", x, x.tick(), 0, 0, 0);
    }

    private static void tickLeavesWhatComesMeanwhile(Check check, LeverHall x) {
        x.deed(0, 2, 0, 1, 0);
        x.deed(1, 11, 0, 0, 0);
        x.deed(2, 7, 1, 0, 0);
        x.deed(3, 11, 2, 0, 0);
        x.act(3, 50);
        x.act(3, 60);
        check.done("tick()", x, x.tick(), 2, 0, 6);
        // the first finds one that waits behind it, so its LATER gives 2; so does the second's
        check.due("basin(0)", x.basin(0), 4);
        check.due("two came meanwhile", x.told(1), 2);
        check.done("tick() of these", x, x.tick(), 2, 0, 2);
        check.due("basin(0)", x.basin(0), 114);
        check.due("none waits", x.told(1), 0);
    }

    private static void tickTakesOutAhead(Check check, LeverHall x) {
        x.deed(0, 0, 1, 0, 0);
        x.deed(1, 11, 0, 0, 0);
        x.deed(2, 11, 1, 0, 0);
        for (int n = 1; n <= 12; n++) {
            x.act(2, n);
        }
        check.done("12 that each wait anew", x, x.tick(), 12, 0, 12);
        check.due("12 wait", x.told(1), 12);
        check.done("FULL", x, x.act(2, 0), 0, LeverHall.FULL, 1);
        x.tick();
        x.deed(3, 7, 1, 1, 0);
        x.deed(4, 11, 3, 0, 0);
        for (int n = 1; n <= 12; n++) {
            x.act(4, n);
        }
        check.done("12 that each wait twice", x, x.tick(), 0, LeverHall.FULL, 36);
        check.due("12 wait", x.told(1), 12);
    }

    private static void tickFailures(Check check, LeverHall x) {
        x.deed(0, 5, 0, 0, 0);
        x.deed(1, 3, 0, 1, 0);
        x.deed(2, 0, 5, 0, 0);
        for (int k = 0; k < 3; k++) {
            x.deed(10 + k, 11, k, 0, 0);
        }
        x.act(10, 1);
        x.act(12, 1);
        x.act(11, 1);
        x.act(12, 1);
        check.done("ZERO, well, SHORT, well", x, x.tick(), 2, LeverHall.SHORT, 4);
        check.due("two failures", x.told(3), 2);
        x.act(11, 1);
        x.act(10, 1);
        check.done("SHORT, ZERO", x, x.tick(), 0, LeverHall.ZERO, 2);
        check.due("four failures", x.told(3), 4);
        x.act(12, 1);
        check.done("well", x, x.tick(), 1, 0, 1);
    }

    private static void tickSteps(Check check, LeverHall x) {
        makeLong(x);
        x.deed(4, 11, 2, 0, 0);
        x.deed(5, 2, 1, 1, 0);
        x.deed(6, 11, 5, 0, 0);
        x.act(4, 0);
        x.act(4, 0);
        x.act(6, 7);
        check.done("31, 31, 1", x, x.tick(), 1, LeverHall.TIRED, 60);
        check.due("the last is not done", x.basin(1), 0);
        check.due("none waits", x.told(1), 0);
        check.due("two failures", x.told(3), 2);
        x.act(4, 0);
        x.act(6, 7);
        check.done("31, 1", x, x.tick(), 2, 0, 32);
        check.due("the last is done", x.basin(1), 7);
        x.deed(7, 14, 7, 0, 0);
        x.deed(8, 11, 7, 0, 0);
        x.act(8, 1);
        x.act(6, 7);
        check.done("DEEP, well", x, x.tick(), 1, LeverHall.DEEP, 18);
    }

    private static void tickGoesRound(Check check, LeverHall x) {
        x.deed(0, 1, 0, 0, 0);
        x.deed(1, 11, 0, 0, 0);
        for (int round = 0; round < 20; round++) {
            for (int n = 1; n <= 5; n++) {
                x.act(1, round * 10 + n);
            }
            check.due("tick() " + round, x.tick(), 5);
            check.due("the last was last " + round, x.basin(0), round * 10 + 5);
        }
    }

    private static void toldRefused(Check check, LeverHall x) {
        for (int what : new int[] {-1, 5, LOW, HIGH}) {
            check.due("told(" + what + ")", x.told(what), LeverHall.BAD);
        }
        x.act(0, 0);
        x.told(9);
        check.due("told() does not touch failed()", x.failed(), LeverHall.NONE);
    }

    private static void cleared(Check check, LeverHall x) {
        check.due("clear() of a new one", x.clear(), 0);
        for (int k = 0; k < 10; k++) {
            x.fill(k, 5);
        }
        for (int g = 0; g < 3; g++) {
            x.gauge(g, 6);
        }
        for (int slot = 0; slot < 20; slot++) {
            x.deed(slot, 4, slot % 3, slot % 6, 0);
            x.act(slot, 3);
            x.lever(slot / 4, slot % 4, slot);
        }
        x.deed(0, 11, 1, 0, 0);
        for (int n = 0; n < 7; n++) {
            x.act(0, n);
        }
        x.tick();
        for (int n = 0; n < 8; n++) {
            x.act(0, n);
        }
        x.deed(1, 5, 0, 0, 0);
        x.act(1, 1);
        check.due("clear()", x.clear(), 22);
        HallTest.newObject(check, x);
        check.due("clear() again", x.clear(), 3);
        check.due("none waits", x.tick(), 0);
        x.deed(0, 1, 0, 0, 0);
        x.deed(1, 11, 0, 0, 0);
        x.act(1, 9);
        check.due("the queue goes on", x.tick(), 1);
        check.due("basin(0)", x.basin(0), 9);
    }

    private static void twoObjects(Check check) {
        LeverHall a = new LeverHall();
        LeverHall b = new LeverHall();
        a.fill(0, 5);
        a.gauge(0, 1);
        a.deed(0, 4, 0, 0, 0);
        a.act(0, 9);
        check.due("another's basin", b.basin(0), 0);
        check.due("another's mark", b.mark(0, 0), 0);
        check.due("another's slot", b.drop(0), LeverHall.NONE);
        check.due("another's deeds", b.told(0), 0);
    }
}
