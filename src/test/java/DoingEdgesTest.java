/** Promises 12 to 17, act, pull, tick, failed, told, clear: each sentence, at both sides of each end. */
public final class DoingEdgesTest {
    private static final int LOW = Halls.LOW, HIGH = Halls.HIGH, BAD = LeverHall.BAD, NONE = LeverHall.NONE;
    private static final int SHORT = LeverHall.SHORT, ZERO = LeverHall.ZERO, FULL = LeverHall.FULL;
    private static final int MISSING = LeverHall.MISSING, TIRED = LeverHall.TIRED, DEEP = LeverHall.DEEP;

    public static void main(String[] args) {
        Check check = new Check();
        check.sentence("Promise 12: The DEED in a SLOT is done with p: what it gives", DoingEdgesTest::acted);
        check.sentence("Promise 12: 0: it FAILED", DoingEdgesTest::actFailed);
        check.sentence("Promise 12: 0: it is refused. BAD", DoingEdgesTest::actBad);
        check.sentence("Promise 12: 0: it is refused. NONE", DoingEdgesTest::actNone);
        check.sentence("Promise 13: A LEVER is pulled with p, as 13: what came last", DoingEdgesTest::pulled);
        check.sentence("Promise 13: 0: it FAILED (MISSING at each PLACE)", DoingEdgesTest::pullMissing);
        check.sentence("Promise 13: 0: it FAILED (one of its DEEDS)", DoingEdgesTest::pullFailed);
        check.sentence("Promise 13: 0: it is refused. BAD", DoingEdgesTest::pullBad);
        check.sentence("Promise 13: (The pulling is no STEP", DoingEdgesTest::pullIsNoStep);
        check.sentence("Promise 13: nor does it count for DEEP.)", DoingEdgesTest::pullIsNotDeep);
        check.sentence("Promise 14: The DEEDS that wait now are done, in their order", DoingEdgesTest::tickOrder);
        check.sentence("Promise 14: the DEEDS that wait: none", DoingEdgesTest::tickOfNone);
        check.sentence("Promise 14: each by itself", DoingEdgesTest::tickEachByItself);
        check.sentence("Promise 14: taken out of the QUEUE ahead of it", DoingEdgesTest::tickTakesOutAhead);
        check.sentence("Promise 14: (those behind it still wait", DoingEdgesTest::tickOthersStillWait);
        check.sentence("Promise 14: those that come to wait meanwhile stay)", DoingEdgesTest::tickOthersStay);
        check.sentence("Promise 14: how many did not FAIL", DoingEdgesTest::tickDidNotFail);
        check.sentence("Promise 14: (STEPS go on from one to the next", DoingEdgesTest::tickSteps);
        check.sentence("Promise 14: failed() is that of the last one that FAILED.)", DoingEdgesTest::tickFailed);
        check.sentence("Promise 15: Why the latest act(), pull(), tick() FAILED, or was refused", DoingEdgesTest::failedWhy);
        check.sentence("Promise 15: 0: it did not", DoingEdgesTest::failedNot);
        check.sentence("Promise 15: the latest act(), pull(), tick(): no other call", DoingEdgesTest::failedOfLatest);
        check.sentence("Promise 16: 0 DEEDS made", DoingEdgesTest::toldMade);
        check.sentence("Promise 16: 1 how many wait", DoingEdgesTest::toldWaiting);
        check.sentence("Promise 16: 2 STEPS of the latest act(), pull(), tick()", DoingEdgesTest::toldSteps);
        check.sentence("Promise 16: 2 STEPS (0: refused)", DoingEdgesTest::toldStepsRefused);
        check.sentence("Promise 16: 3 how many DEEDS FAILED (each of these calls one at most)", DoingEdgesTest::toldFailed);
        check.sentence("Promise 16: 3 (of tick() each DEED, one at most)", DoingEdgesTest::toldFailedInTick);
        check.sentence("Promise 16: 3 not what is refused", DoingEdgesTest::toldFailedNotRefused);
        check.sentence("Promise 16: 4 SLOTS with a DEED", DoingEdgesTest::toldSlots);
        check.sentence("Promise 16: BAD", DoingEdgesTest::toldBad);
        check.sentence("Promise 17: As at the beginning", DoingEdgesTest::clearedAll);
        check.sentence("Promise 17: As at the beginning (what was held by none that is left)", DoingEdgesTest::clearedQueue);
        check.sentence("Promise 17: how many DEEDS were made", DoingEdgesTest::clearedMade);
        check.sentence("What it is: at most 512 calls after it has been made", DoingEdgesTest::until512);
        check.end();
    }

    private static void acted(Check check) {
        LeverHall x = new LeverHall();
        for (int slot : new int[] {0, 19}) {
            x.deed(slot, 6, 0, 0, 0);
            for (int p : new int[] {LOW, -1, 0, 1, HIGH}) {
                check.done("act(" + slot + ", " + p + ")", x, x.act(slot, p), p, 0, 1);
            }
        }
    }

    private static void actFailed(Check check) {
        LeverHall x = new LeverHall();
        x.deed(0, 5, 0, 0, 0);
        check.done("at once", x, x.act(0, 9), 0, ZERO, 1);
        x.deed(1, 0, 8, 0, 0);
        x.deed(2, 7, 1, 0, 0);
        check.done("behind what gave 8", x, x.act(2, 9), 0, ZERO, 3);
        x.deed(2, 7, 0, 1, 0);
        check.done("ahead of what would give 8", x, x.act(2, 9), 0, ZERO, 2);
        x.deed(2, 9, 0, 5, 0);
        check.done("in a TIMES", x, x.act(2, 9), 0, ZERO, 2);
        x.deed(2, 12, 0, 0, 0);
        check.done("in a COUNT", x, x.act(2, 9), 0, ZERO, 2);
        check.due("told(3)", x.told(3), 5);
    }

    private static void actBad(Check check) {
        for (int slot : Halls.NO_SLOTS) {
            for (int p : new int[] {0, 1, LOW}) {
                Twins.refusedDoing(check, "act(" + slot + ", " + p + ")", BAD, x -> x.act(slot, p));
            }
        }
    }

    private static void actNone(Check check) {
        for (int slot = 16; slot <= 19; slot++) {
            int s = slot;
            Twins.refusedDoing(check, "act(" + slot + ", 1)", NONE, x -> x.act(s, 1));
        }
        check.due("act(15, 1), which has one", Halls.furnished().act(15, 1), 3);
    }

    private static void pulled(Check check) {
        for (int lever : new int[] {0, 4}) {
            LeverHall x = new LeverHall();
            x.deed(0, 5, 2, 0, 0);
            x.deed(1, 1, 9, 0, 0);
            x.fill(9, LOW);
            Halls.everyPlace(x, lever, 0);
            check.done("HIGH / 16", x, x.pull(lever, HIGH), HIGH / 16, 0, 4);
            x.lever(lever, 3, 1);
            check.done("SET gives LOW", x, x.pull(lever, 800), LOW, 0, 4);
            check.due("basin(9)", x.basin(9), 100);
            x.lever(lever, 0, 1);
            check.done("the first with p", x, x.pull(lever, 7), 7, 0, 4);
            check.due("100 / 2 / 2, basin(9)", x.basin(9), 25);
        }
    }

    private static void pullMissing(Check check) {
        for (int missing = 0; missing < 4; missing++) {
            LeverHall x = new LeverHall();
            x.deed(0, 0, 5, 0, 0);
            x.deed(1, 12, 0, 0, 0);
            Halls.everyPlace(x, 4, 1);
            x.lever(4, missing, -1);
            check.done("without place " + missing, x, x.pull(4, 9), 0, MISSING, 2 * missing + 1);
            check.due("those ahead of it are done, count(1)", x.count(1), missing);
            check.due("told(3)", x.told(3), 1);
        }
    }

    private static void pullFailed(Check check) {
        for (int failing = 0; failing < 4; failing++) {
            LeverHall x = new LeverHall();
            x.deed(0, 2, 9, 1, 0);
            x.deed(1, 5, 0, 0, 0);
            Halls.everyPlace(x, 0, 0);
            x.lever(0, failing, 1);
            check.done("ZERO at place " + failing, x, x.pull(0, 1), 0, ZERO, failing + 1);
            check.due("what was changed till then stays, basin(9)", x.basin(9), failing == 3 ? 4 : failing);
        }
    }

    private static void pullBad(Check check) {
        for (int lever : Halls.NO_LEVERS) {
            for (int p : new int[] {0, 1, LOW}) {
                Twins.refusedDoing(check, "pull(" + lever + ", " + p + ")", BAD, x -> x.pull(lever, p));
            }
        }
    }

    private static void pullIsNoStep(Check check) {
        LeverHall x = new LeverHall();
        check.done("of no deeds", x, x.pull(0, 1), 0, MISSING, 1);
        x.deed(0, 0, 5, 0, 0);
        Halls.everyPlace(x, 0, 0);
        check.done("of four", x, x.pull(0, 1), 5, 0, 4);
        x.deed(1, 13, 0, 0, 0);
        check.done("PULL is one", x, x.act(1, 1), 5, 0, 5);
        Halls.takesSteps(x, 2, 15);
        Halls.everyPlace(x, 0, 2);
        check.done("four of 15 are 60", x, x.pull(0, 1), 1, 0, 60);
        check.done("PULL of them is TIRED", x, x.act(1, 1), 0, TIRED, 60);
    }

    private static void pullIsNotDeep(Check check) {
        LeverHall x = new LeverHall();
        x.deed(0, 0, 5, 0, 0);
        x.deed(1, 0, 5, 0, 0);
        Halls.everyPlace(x, 0, 1);
        Halls.around(x, 0, 15);
        x.lever(0, 3, 0);
        check.done("16 in one another", x, x.pull(0, 1), 5, 0, 19);
        x.deed(2, 13, 0, 0, 0);
        check.done("PULL counts", x, x.act(2, 1), 0, DEEP, 20);
        Halls.around(x, 0, 1);
        x.lever(0, 3, 0);
        check.done("17 in one another", x, x.pull(0, 1), 0, DEEP, 20);
    }

    private static void tickOrder(Check check) {
        LeverHall x = new LeverHall();
        x.deed(0, 1, 0, 0, 0);
        x.deed(1, 2, 0, 10, 0);
        x.deed(2, 5, 0, 0, 0);
        x.deed(10, 11, 0, 0, 0);
        x.deed(11, 11, 1, 0, 0);
        for (int round = 0; round < 7; round++) {
            x.act(10, 3);
            x.act(11, 2);
            check.due("SET 3, ADD 20: tick()", x.tick(), 2);
            check.due("basin(0)", x.basin(0), 23);
            x.act(11, 2);
            x.act(10, 3);
            x.act(11, -1);
            check.due("ADD 20, SET 3, ADD -10: tick()", x.tick(), 3);
            check.due("basin(0)", x.basin(0), -7);
        }
        x.act(10, HIGH);
        for (int n = 2; n <= 12; n++) {
            x.act(11, 1);
        }
        check.due("12: tick()", x.tick(), 12);
        check.due("HIGH and 110, basin(0)", x.basin(0), HIGH + 110);
    }

    private static void tickOfNone(Check check) {
        LeverHall x = new LeverHall();
        check.done("of a new one", x, x.tick(), 0, 0, 0);
        x.act(0, 1);
        check.done("behind a refusal", x, x.tick(), 0, 0, 0);
        x.deed(0, 5, 0, 0, 0);
        x.act(0, 1);
        check.done("behind a failure", x, x.tick(), 0, 0, 0);
        x.deed(0, 0, 5, 0, 0);
        Halls.waits(x, 0, 1, 1, 1);
        check.done("of one", x, x.tick(), 1, 0, 1);
        check.done("once more", x, x.tick(), 0, 0, 0);
    }

    private static void tickEachByItself(Check check) {
        LeverHall x = new LeverHall();
        x.deed(0, 5, 0, 0, 0);
        x.deed(1, 2, 9, 1, 0);
        x.deed(10, 11, 0, 0, 0);
        x.deed(11, 11, 1, 0, 0);
        x.act(11, 1);
        x.act(10, 1);
        x.act(11, 2);
        check.done("a failure between two", x, x.tick(), 2, ZERO, 3);
        check.due("each with its own p, basin(9)", x.basin(9), 3);
        check.due("the failed one does not wait, told(1)", x.told(1), 0);
        x.deed(2, 14, 2, 0, 0);
        Halls.waits(x, 2, 12, 1, 1);
        x.act(11, 4);
        check.done("DEEP, then one by itself", x, x.tick(), 1, DEEP, 18);
        check.due("basin(9)", x.basin(9), 7);
    }

    private static void tickTakesOutAhead(Check check) {
        LeverHall x = new LeverHall();
        // slot 2 lets slot 0's wait, and puts into basin 8 how many wait then
        x.deed(0, 1, 9, 0, 0);
        x.deed(1, 11, 0, 0, 0);
        x.deed(2, 1, 8, 0, 0);
        x.deed(2, 7, 1, 2, 0);
        Halls.waits(x, 2, 3, 1, 5);
        check.done("one that lets another wait", x, x.tick(), 1, 0, 3);
        check.due("it did not wait itself, basin(8)", x.basin(8), 1);
        x.tick();
        Halls.waits(x, 1, 4, 12, 5);
        check.done("12 that let another wait: there is a place for each", x, x.tick(), 12, 0, 12);
        check.due("told(1)", x.told(1), 12);
        check.done("the 12 that came", x, x.tick(), 12, 0, 12);
        x.deed(5, 7, 1, 1, 0);
        Halls.waits(x, 5, 6, 11, 5);
        x.deed(7, 0, 1, 0, 0);
        Halls.waits(x, 7, 6, 1, 5);
        // each finds 11 behind it and lets two wait, for one of which there is no place
        check.done("11 that let two wait, and one that lets none", x, x.tick(), 1, FULL, 34);
        check.due("told(1)", x.told(1), 11);
        check.due("told(3)", x.told(3), 11);
    }

    private static void tickOthersStillWait(Check check) {
        LeverHall x = new LeverHall();
        // each lets one wait and adds how many wait then: those behind it, those that came and this one are n
        x.deed(0, 0, 1, 0, 0);
        x.deed(1, 11, 0, 0, 0);
        x.deed(2, 2, 9, 1, 0);
        x.deed(3, 7, 1, 2, 0);
        for (int n = 1; n <= 12; n++) {
            Halls.waits(x, 3, 4, n, 1);
            x.fill(9, 0);
            check.done("tick() of " + n, x, x.tick(), n, 0, 3 * n);
            check.due("n times n, basin(9)", x.basin(9), n * n);
            check.due("told(1)", x.told(1), n);
            x.tick();
        }
    }

    private static void tickOthersStay(Check check) {
        LeverHall x = new LeverHall();
        x.deed(0, 2, 9, 1, 0);
        x.deed(1, 11, 0, 0, 0);
        for (int n : new int[] {1, 5, 12}) {
            x.fill(9, 0);
            Halls.waits(x, 1, 2, n, 3);
            check.done("tick() of " + n, x, x.tick(), n, 0, n);
            check.due("none of those that came is done, basin(9)", x.basin(9), 0);
            check.due("told(1)", x.told(1), n);
            check.done("tick() of those that came", x, x.tick(), n, 0, n);
            check.due("basin(9)", x.basin(9), 3 * n);
            check.due("told(1)", x.told(1), 0);
        }
        x.deed(3, 14, 4, 0, 0);
        x.deed(4, 11, 3, 0, 0);
        x.act(4, 1);
        for (int n = 0; n < 3; n++) {
            check.done("one that always waits anew", x, x.tick(), 1, 0, 2);
            check.due("told(1)", x.told(1), 1);
        }
    }

    private static void tickDidNotFail(Check check) {
        for (int well = 0; well <= 12; well++) {
            LeverHall x = new LeverHall();
            x.deed(0, 0, 5, 0, 0);
            x.deed(1, 5, 0, 0, 0);
            Halls.waits(x, 0, 2, well, 1);
            Halls.waits(x, 1, 3, 12 - well, 1);
            check.done(well + " of 12", x, x.tick(), well, well == 12 ? 0 : ZERO, 12);
            check.due("told(3)", x.told(3), 12 - well);
            check.due("told(1)", x.told(1), 0);
        }
        LeverHall x = new LeverHall();
        x.deed(0, 5, 0, 0, 0);
        x.deed(1, 0, 5, 0, 0);
        x.deed(2, 10, 0, 1, 0);
        Halls.waits(x, 2, 3, 2, 1);
        check.done("what a TRY took up did not FAIL", x, x.tick(), 2, 0, 6);
    }

    private static void tickSteps(Check check) {
        LeverHall x = new LeverHall();
        Halls.takesSteps(x, 0, 30);
        Halls.waits(x, 0, 10, 2, 1);
        check.done("30 and 30", x, x.tick(), 2, 0, 60);
        x.act(10, 1);
        Halls.takesSteps(x, 1, 31);
        Halls.waits(x, 1, 11, 1, 1);
        check.done("30 and 31", x, x.tick(), 1, TIRED, 60);
        x.deed(12, 2, 9, 1, 0);
        x.act(11, 1);
        x.act(10, 1);
        Halls.waits(x, 12, 13, 3, 1);
        check.done("31, 30, and three that are not done", x, x.tick(), 1, TIRED, 60);
        check.due("basin(9)", x.basin(9), 0);
        check.due("they do not wait any more, told(1)", x.told(1), 0);
        check.due("told(3)", x.told(3), 5);
        x.act(13, 1);
        check.done("the next tick() begins anew", x, x.tick(), 1, 0, 1);
    }

    private static void tickFailed(Check check) {
        LeverHall x = new LeverHall();
        x.deed(0, 5, 0, 0, 0);
        x.deed(1, 3, 0, 0, 0);
        x.deed(2, 0, 5, 0, 0);
        for (int k = 0; k <= 2; k++) {
            x.deed(10 + k, 11, k, 0, 0);
        }
        int[][] rows = {{0, 1, 2, SHORT}, {1, 0, 2, ZERO}, {2, 1, 0, ZERO}, {0, 2, 1, SHORT}, {0, 2, 2, ZERO},
            {2, 2, 1, SHORT}, {2, 2, 2, 0}};
        for (int[] row : rows) {
            for (int n = 0; n < 3; n++) {
                x.act(10 + row[n], 1);
            }
            x.tick();
            check.due("slots " + row[0] + ", " + row[1] + ", " + row[2] + ": failed()", x.failed(), row[3]);
        }
    }

    private static void failedWhy(Check check) {
        LeverHall x = new LeverHall();
        x.deed(0, 0, 1, 0, 0);
        int[][] deeds = {{3, 0, 0, SHORT}, {4, 0, 0, LeverHall.INDEX}, {5, 0, 0, ZERO}, {14, 19, 0, MISSING}, {14, 1, 0, DEEP},
            {11, 0, 0, FULL}};
        Halls.waits(x, 0, 2, 12, 1);
        for (int[] d : deeds) {
            x.deed(1, d[0], d[1], d[2], 0);
            x.act(1, 1);
            check.due("act(): failed()", x.failed(), d[3]);
            x.lever(0, 0, 1);
            x.pull(0, 1);
            check.due("pull(): failed()", x.failed(), d[3]);
        }
        x.tick();
        for (int n = 0; n < 5; n++) {
            x.deed(1, deeds[n][0], deeds[n][1], deeds[n][2], 0);
            Halls.waits(x, 1, 2, 1, 1);
            x.tick();
            check.due("tick(): failed()", x.failed(), deeds[n][3]);
        }
        x.act(20, 1);
        check.due("act(20, 1): failed()", x.failed(), BAD);
        x.act(19, 1);
        check.due("act(19, 1): failed()", x.failed(), NONE);
        x.pull(5, 1);
        check.due("pull(5, 1): failed()", x.failed(), BAD);
        Halls.takesSteps(x, 3, 61);
        x.act(3, 1);
        check.due("61 steps: failed()", x.failed(), TIRED);
    }

    private static void failedNot(Check check) {
        LeverHall x = new LeverHall();
        check.due("none was yet: failed()", x.failed(), 0);
        x.deed(0, 0, -1, 0, 0);
        x.deed(1, 5, 0, 0, 0);
        x.deed(2, 10, 1, 0, 0);
        Halls.everyPlace(x, 0, 0);
        for (int before = 0; before < 2; before++) {
            // behind a refusal, then behind a failure
            int slot = before == 0 ? 20 : 1;
            x.act(slot, 1);
            check.due("act() that gives -1", x.act(0, 1), -1);
            check.due("failed()", x.failed(), 0);
            x.act(slot, 1);
            check.due("act() of a TRY that took a failure up", x.act(2, 1), -1);
            check.due("failed()", x.failed(), 0);
            x.act(slot, 1);
            check.due("pull() that gives -1", x.pull(0, 1), -1);
            check.due("failed()", x.failed(), 0);
            x.act(slot, 1);
            check.due("tick() of none", x.tick(), 0);
            check.due("failed()", x.failed(), 0);
        }
    }

    private static void failedOfLatest(Check check) {
        LeverHall x = new LeverHall();
        x.deed(0, 5, 0, 0, 0);
        x.act(0, 1);
        int[] answers = {
            x.fill(0, 1), x.fill(10, 1), x.basin(0), x.basin(10), x.gauge(0, 1), x.gauge(0, 7), x.mark(0, 0), x.mark(3, 0),
            x.deed(1, 0, 1, 0, 0), x.deed(20, 0, 1, 0, 0), x.deed(1, 11, 19, 0, 0), x.copy(0, 2), x.copy(19, 0),
            x.drop(2), x.drop(2), x.drop(20), x.lever(0, 0, 0), x.lever(5, 0, 0), x.lever(0, 0, 19), x.same(0, 1),
            x.same(0, 20), x.count(0), x.count(20), x.told(2), x.told(5)};
        check.due("calls", answers.length, 25);
        check.due("failed()", x.failed(), ZERO);
        check.due("failed() asked again", x.failed(), ZERO);
        check.due("told(2), too", x.told(2), 1);
    }

    private static void toldMade(Check check) {
        LeverHall x = new LeverHall();
        check.due("at first", x.told(0), 0);
        x.deed(0, 0, 1, 0, 0);
        check.due("one", x.told(0), 1);
        x.deed(0, 0, 1, 0, 0);
        check.due("two into one slot", x.told(0), 2);
        x.copy(0, 1);
        x.lever(0, 0, 0);
        x.drop(0);
        x.deed(20, 0, 1, 0, 0);
        x.deed(0, 12, 19, 0, 0);
        check.due("neither copies, drops nor what is refused", x.told(0), 2);
    }

    private static void toldWaiting(Check check) {
        LeverHall x = new LeverHall();
        x.deed(0, 0, 1, 0, 0);
        x.deed(1, 11, 0, 0, 0);
        check.due("at first", x.told(1), 0);
        for (int n = 1; n <= 12; n++) {
            x.act(1, 1);
            check.due("behind " + n, x.told(1), n);
        }
        x.act(1, 1);
        check.due("FULL", x.told(1), 12);
        x.tick();
        check.due("behind tick()", x.told(1), 0);
    }

    private static void toldSteps(Check check) {
        LeverHall x = new LeverHall();
        check.due("at first", x.told(2), 0);
        Halls.takesSteps(x, 0, 60);
        x.act(0, 1);
        check.due("act() of 60", x.told(2), 60);
        check.due("asked again", x.told(2), 60);
        x.pull(0, 1);
        check.due("pull() of none", x.told(2), 1);
        Halls.takesSteps(x, 0, 2);
        Halls.waits(x, 0, 10, 3, 1);
        check.due("LATER", x.told(2), 1);
        x.tick();
        check.due("tick() of 3 of 2", x.told(2), 6);
        x.tick();
        check.due("tick() of none", x.told(2), 0);
    }

    private static void toldStepsRefused(Check check) {
        LeverHall x = new LeverHall();
        x.deed(0, 0, 1, 0, 0);
        x.act(0, 1);
        check.due("act(0, 1)", x.told(2), 1);
        x.act(20, 1);
        check.due("act(20, 1)", x.told(2), 0);
        x.act(0, 1);
        x.act(19, 1);
        check.due("act(19, 1)", x.told(2), 0);
        x.act(0, 1);
        x.pull(5, 1);
        check.due("pull(5, 1)", x.told(2), 0);
    }

    private static void toldFailed(Check check) {
        LeverHall x = new LeverHall();
        check.due("at first", x.told(3), 0);
        x.deed(0, 5, 0, 0, 0);
        x.deed(1, 0, 1, 0, 0);
        x.act(1, 1);
        check.due("act() that does not FAIL", x.told(3), 0);
        x.act(0, 1);
        check.due("act() that FAILS", x.told(3), 1);
        Halls.around(x, 0, 10);
        x.act(0, 1);
        check.due("11 in one another are one", x.told(3), 2);
        x.pull(0, 1);
        check.due("pull() that FAILS", x.told(3), 3);
        x.deed(2, 10, 0, 0, 0);
        x.act(2, 1);
        check.due("a TRY both of whose FAIL is one", x.told(3), 4);
        x.deed(2, 10, 0, 1, 0);
        x.act(2, 1);
        check.due("a TRY that does not FAIL is none", x.told(3), 4);
        x.deed(3, 14, 3, 0, 0);
        x.act(3, 1);
        check.due("DEEP is one", x.told(3), 5);
        Halls.takesSteps(x, 4, 61);
        x.act(4, 1);
        check.due("TIRED is one", x.told(3), 6);
    }

    private static void toldFailedInTick(Check check) {
        LeverHall x = new LeverHall();
        x.deed(0, 5, 0, 0, 0);
        Halls.around(x, 0, 3);
        x.deed(1, 0, 1, 0, 0);
        Halls.waits(x, 0, 2, 6, 1);
        Halls.waits(x, 1, 3, 6, 1);
        check.due("those that wait are none, told(3)", x.told(3), 0);
        check.due("tick() of 6 that FAIL and 6 that do not", x.tick(), 6);
        check.due("told(3)", x.told(3), 6);
        x.deed(4, 7, 0, 0, 0);
        Halls.waits(x, 4, 5, 12, 1);
        check.due("tick() of 12 that FAIL", x.tick(), 0);
        check.due("told(3)", x.told(3), 18);
    }

    private static void toldFailedNotRefused(Check check) {
        LeverHall x = new LeverHall();
        x.act(20, 1);
        x.act(19, 1);
        x.pull(5, 1);
        x.deed(20, 0, 0, 0, 0);
        x.tick();
        check.due("told(3)", x.told(3), 0);
    }

    private static void toldSlots(Check check) {
        LeverHall x = new LeverHall();
        check.due("at first", x.told(4), 0);
        for (int slot = 0; slot <= 19; slot++) {
            x.deed(slot, 0, 1, 0, 0);
            check.due("behind " + (slot + 1), x.told(4), slot + 1);
        }
        x.deed(0, 0, 1, 0, 0);
        x.copy(0, 19);
        check.due("into what has one", x.told(4), 20);
        Halls.everyPlace(x, 0, 0);
        for (int slot = 0; slot <= 19; slot++) {
            x.drop(slot);
            check.due("behind drop(" + slot + ")", x.told(4), 19 - slot);
        }
    }

    private static void toldBad(Check check) {
        for (int what : new int[] {-1, 5, LOW, HIGH}) {
            Twins.unchanged(check, "told(" + what + ")", BAD, x -> x.told(what));
        }
        int[] furnished = {15, 2, 3, 1, 16};
        for (int what = 0; what <= 4; what++) {
            int w = what;
            Twins.unchanged(check, "told(" + what + ")", furnished[what], x -> x.told(w));
        }
    }

    private static void clearedAll(Check check) {
        LeverHall x = Halls.furnished();
        x.clear();
        Twins.compare(check, "clear()", Twins.ask(x), Twins.ask(new LeverHall()));
        Twins.compare(check, "clear()", Twins.doAll(x), Twins.doAll(new LeverHall()));
        LeverHall y = Halls.furnished();
        y.gauge(2, 6);
        for (int slot = 0; slot <= 19; slot++) {
            y.copy(12, slot);
            y.lever(slot / 4, slot % 4, 12);
        }
        y.clear();
        Twins.compare(check, "clear() of a full one", Twins.ask(y), Twins.ask(new LeverHall()));
        Twins.compare(check, "clear() of a full one", Twins.doAll(y), Twins.doAll(new LeverHall()));
    }

    private static void clearedQueue(Check check) {
        for (int taken = 0; taken <= 12; taken++) {
            LeverHall x = new LeverHall();
            x.deed(0, 2, 9, 1, 0);
            Halls.waits(x, 0, 1, taken, 1);
            x.tick();
            Halls.waits(x, 0, 1, 12, 1);
            x.clear();
            check.due("none waits, told(1)", x.told(1), 0);
            check.done("tick()", x, x.tick(), 0, 0, 0);
            check.due("basin(9)", x.basin(9), 0);
            check.due("made again", x.deed(0, 2, 9, 1, 0), 1);
            Halls.waits(x, 0, 1, 12, 5);
            check.done("12 may wait again: tick()", x, x.tick(), 12, 0, 12);
            check.due("basin(9)", x.basin(9), 60);
        }
    }

    private static void clearedMade(Check check) {
        LeverHall x = new LeverHall();
        check.due("clear() of a new one", x.clear(), 0);
        for (int n = 1; n <= 30; n++) {
            x.deed(0, 0, n, 0, 0);
        }
        x.copy(0, 1);
        x.drop(0);
        check.due("clear() behind 30", x.clear(), 30);
        check.due("clear() again", x.clear(), 0);
        check.due("the next is the first", x.deed(0, 0, 1, 0, 0), 1);
        check.due("clear() behind one", x.clear(), 1);
    }

    private static void until512(Check check) {
        LeverHall x = new LeverHall();
        x.deed(0, 0, 1, 0, 0);
        x.deed(19, 12, 0, 0, 0);
        for (int call = 3; call <= 511; call++) {
            check.due("call " + call, x.act(19, 1), call - 2);
        }
        check.due("call 512", x.count(19), 509);
        LeverHall y = new LeverHall();
        for (int call = 1; call <= 511; call++) {
            check.due("call " + call, y.deed(call % 20, 0, call, 0, 0), call);
        }
        check.due("call 512", y.clear(), 511);
    }
}
