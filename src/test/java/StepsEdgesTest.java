/** 'Terms' on STEPS, TIRED, DEEP and FAILS: each sentence, at both sides of each end. */
public final class StepsEdgesTest {
    private static final int TIRED = LeverHall.TIRED, DEEP = LeverHall.DEEP, MISSING = LeverHall.MISSING;
    private static final int ZERO = LeverHall.ZERO, SHORT = LeverHall.SHORT;

    public static void main(String[] args) {
        Check check = new Check();
        check.sentence("Terms: STEPS: each DEED that is done", StepsEdgesTest::eachDeedIsOne);
        check.sentence("Terms: STEPS: each DEED that is done (and FAILS)", StepsEdgesTest::whatFailsIsOne);
        check.sentence("Terms: STEPS: (what is MISSING, too)", StepsEdgesTest::whatIsMissingIsOne);
        check.sentence("Terms: 60 in one act(); one more is TIRED", StepsEdgesTest::tiredInAct);
        check.sentence("Terms: 60 in one pull(); one more is TIRED", StepsEdgesTest::tiredInPull);
        check.sentence("Terms: 60 in one tick(); one more is TIRED", StepsEdgesTest::tiredInTick);
        check.sentence("Terms: 60 in one call: the next begins anew", StepsEdgesTest::nextBeginsAnew);
        check.sentence("Terms: one more is TIRED (and no STEP)", StepsEdgesTest::tiredIsNoStep);
        check.sentence("Terms: DEEP: 16 have not given yet, in act()", StepsEdgesTest::deepInAct);
        check.sentence("Terms: DEEP: 16 have not given yet, in pull()", StepsEdgesTest::deepInPull);
        check.sentence("Terms: DEEP: 16 have not given yet, in tick()", StepsEdgesTest::deepInTick);
        check.sentence("Terms: DEEP: each kind that does others has not given yet", StepsEdgesTest::deepInEachKind);
        check.sentence("Terms: DEEP: have not given yet: who gave does not count", StepsEdgesTest::whoGaveDoesNotCount);
        check.sentence("Terms: DEEP: one more is to be done: LATER's is not", StepsEdgesTest::laterIsNotDeep);
        check.sentence("Terms: DEEP (it is a STEP", StepsEdgesTest::deepIsAStep);
        check.sentence("Terms: DEEP (behind TIRED", StepsEdgesTest::deepBehindTired);
        check.sentence("Terms: DEEP (ahead of MISSING)", StepsEdgesTest::deepAheadOfMissing);
        check.sentence("Terms: TIRED is ahead of MISSING, too (it is no STEP)", StepsEdgesTest::tiredAheadOfMissing);
        check.sentence("Terms: Where a DEED FAILS, that ends all that it is part of", StepsEdgesTest::failureEndsAll);
        check.sentence("Terms: (but TRY)", StepsEdgesTest::failureEndsAtTry);
        check.sentence("Terms: what was changed till then stays", StepsEdgesTest::whatWasChangedStays);
        check.end();
    }

    private static void eachDeedIsOne(Check check) {
        int[] steps = {1, 1, 1, 1, 1, 1, 1, 3, 2, 3, 2, 1, 2, 5, 2};
        for (int kind = 0; kind <= 14; kind++) {
            LeverHall x = new LeverHall();
            x.gauge(0, 1);
            x.fill(0, 9);
            x.deed(0, 0, 1, 0, 0);
            Halls.everyPlace(x, 0, 0);
            x.deed(1, kind, kind == 5 ? 1 : 0, kind == 9 ? 2 : 0, 0);
            x.act(1, 1);
            check.due("failed() of kind " + kind, x.failed(), 0);
            check.due("told(2) of kind " + kind, x.told(2), steps[kind]);
        }
    }

    private static void whatFailsIsOne(Check check) {
        LeverHall x = new LeverHall();
        x.deed(0, 3, 0, 0, 0);
        check.done("SHORT", x, x.act(0, 1), 0, SHORT, 1);
        x.deed(0, 4, 0, 0, 0);
        check.done("INDEX", x, x.act(0, 1), 0, LeverHall.INDEX, 1);
        x.deed(0, 5, 0, 0, 0);
        check.done("ZERO", x, x.act(0, 1), 0, ZERO, 1);
        x.deed(1, 0, 5, 0, 0);
        x.deed(2, 10, 0, 1, 0);
        check.done("ZERO in a TRY, and the other", x, x.act(2, 1), 5, 0, 3);
        Halls.waits(x, 0, 3, 12, 1);
        check.done("FULL", x, x.act(3, 1), 0, LeverHall.FULL, 1);
    }

    private static void whatIsMissingIsOne(Check check) {
        LeverHall x = new LeverHall();
        check.done("pull() of none", x, x.pull(0, 1), 0, MISSING, 1);
        x.deed(0, 13, 0, 0, 0);
        check.done("PULL of none", x, x.act(0, 1), 0, MISSING, 2);
        x.deed(0, 14, 19, 0, 0);
        check.done("LOOK at none", x, x.act(0, 1), 0, MISSING, 2);
        x.deed(1, 0, 5, 0, 0);
        x.deed(0, 10, 0, 1, 0);
        check.done("TRY, LOOK, none, and the other", x, x.act(0, 1), 5, 0, 4);
    }

    /** Puts a deed into slot 10 that takes n steps, the last of them a SET of basin 9. */
    private static void endsWithSet(LeverHall x, int n) {
        x.deed(9, 1, 9, 0, 0);
        Halls.takesSteps(x, 0, n - 2);
        x.deed(10, 7, 0, 9, 0);
    }

    private static void tiredInAct(Check check) {
        LeverHall x = new LeverHall();
        endsWithSet(x, 59);
        check.done("59 steps", x, x.act(10, 1), 0, 0, 59);
        x.fill(9, 0);
        endsWithSet(x, 60);
        check.done("60 steps", x, x.act(10, 1), 0, 0, 60);
        check.due("the 60th is done, basin(9)", x.basin(9), 1);
        x.fill(9, 0);
        endsWithSet(x, 61);
        check.done("61 steps", x, x.act(10, 1), 0, TIRED, 60);
        check.due("the 61st is not done, basin(9)", x.basin(9), 0);
        check.due("told(3)", x.told(3), 1);
    }

    private static void tiredInPull(Check check) {
        LeverHall x = new LeverHall();
        Halls.takesSteps(x, 0, 20);
        x.copy(0, 9);
        x.lever(2, 0, 9);
        x.lever(2, 1, 9);
        Halls.takesSteps(x, 0, 19);
        x.lever(2, 2, 0);
        x.deed(8, 1, 9, 0, 0);
        x.lever(2, 3, 8);
        check.done("20, 20, 19 and 1 step", x, x.pull(2, 1), 0, 0, 60);
        check.due("the 60th is done, basin(9)", x.basin(9), 1);
        x.fill(9, 0);
        x.lever(2, 2, 9);
        check.done("20, 20, 20 and 1 step", x, x.pull(2, 1), 0, TIRED, 60);
        check.due("the 61st is not done, basin(9)", x.basin(9), 0);
    }

    private static void tiredInTick(Check check) {
        LeverHall x = new LeverHall();
        Halls.takesSteps(x, 0, 12);
        Halls.waits(x, 0, 10, 4, 1);
        Halls.takesSteps(x, 0, 11);
        Halls.waits(x, 0, 11, 1, 1);
        x.deed(12, 1, 9, 0, 0);
        Halls.waits(x, 12, 13, 1, 7);
        check.done("4 times 12, 11 and 1 step", x, x.tick(), 6, 0, 60);
        check.due("the 60th is done, basin(9)", x.basin(9), 7);
        x.fill(9, 0);
        for (int n = 0; n < 5; n++) {
            x.act(10, 1);
        }
        x.act(13, 7);
        check.done("5 times 12 and 1 step", x, x.tick(), 5, TIRED, 60);
        check.due("the 61st is not done, basin(9)", x.basin(9), 0);
        check.due("told(3)", x.told(3), 1);
        check.due("it does not wait any more, told(1)", x.told(1), 0);
    }

    private static void nextBeginsAnew(Check check) {
        LeverHall x = new LeverHall();
        Halls.takesSteps(x, 0, 15);
        Halls.everyPlace(x, 0, 0);
        Halls.takesSteps(x, 0, 60);
        Halls.waits(x, 0, 10, 1, 1);
        for (int n = 0; n < 2; n++) {
            check.done("act() of 60 steps", x, x.act(0, 1), 1, 0, 60);
            check.done("pull() of 60 steps", x, x.pull(0, 1), 1, 0, 60);
        }
        check.done("tick() of 60 steps", x, x.tick(), 1, 0, 60);
        check.done("act() of 60 steps", x, x.act(0, 1), 1, 0, 60);
        check.done("tick() of no steps", x, x.tick(), 0, 0, 0);
    }

    private static void tiredIsNoStep(Check check) {
        LeverHall x = new LeverHall();
        x.deed(0, 0, 1, 0, 0);
        for (int n = 0; n < 3; n++) {
            x.deed(0, 9, 0, 5, 0);
        }
        check.done("156 steps", x, x.act(0, 1), 0, TIRED, 60);
        Halls.everyPlace(x, 0, 0);
        check.done("4 times 156", x, x.pull(0, 1), 0, TIRED, 60);
        Halls.waits(x, 0, 1, 12, 1);
        check.done("12 times 156, each by itself", x, x.tick(), 0, TIRED, 60);
        check.due("told(3)", x.told(3), 14);
    }

    private static void deepInAct(Check check) {
        LeverHall x = new LeverHall();
        x.deed(0, 1, 9, 0, 0);
        Halls.around(x, 0, 15);
        check.done("16 in one another", x, x.act(0, 7), 0, 0, 16);
        check.due("the 16th is done, basin(9)", x.basin(9), 7);
        Halls.around(x, 0, 1);
        check.done("17 in one another", x, x.act(0, 8), 0, DEEP, 17);
        check.due("the 17th is not done, basin(9)", x.basin(9), 7);
        Halls.around(x, 0, 1);
        check.done("18 in one another", x, x.act(0, 8), 0, DEEP, 17);
    }

    private static void deepInPull(Check check) {
        LeverHall x = new LeverHall();
        x.deed(0, 1, 9, 0, 0);
        Halls.around(x, 0, 15);
        x.deed(1, 0, 5, 0, 0);
        x.lever(0, 0, 0);
        for (int place = 1; place < 4; place++) {
            x.lever(0, place, 1);
        }
        check.done("16 in one another at place 0", x, x.pull(0, 7), 5, 0, 19);
        check.due("the 16th is done, basin(9)", x.basin(9), 7);
        Halls.around(x, 0, 1);
        x.lever(0, 0, 1);
        x.lever(0, 3, 0);
        check.done("17 in one another at place 3", x, x.pull(0, 8), 0, DEEP, 20);
        check.due("the 17th is not done, basin(9)", x.basin(9), 7);
    }

    private static void deepInTick(Check check) {
        LeverHall x = new LeverHall();
        x.deed(0, 2, 9, 1, 0);
        Halls.around(x, 0, 15);
        Halls.waits(x, 0, 1, 2, 7);
        check.done("16 in one another, twice", x, x.tick(), 2, 0, 32);
        check.due("the 16th is done, basin(9)", x.basin(9), 14);
        x.copy(0, 2);
        Halls.around(x, 0, 1);
        Halls.waits(x, 0, 3, 1, 7);
        Halls.waits(x, 2, 4, 1, 7);
        check.done("17 in one another, then 16", x, x.tick(), 1, DEEP, 33);
        check.due("the 17th is not done, basin(9)", x.basin(9), 21);
    }

    /** Makes a deed of a kind in slot 1 that does the one in slot 0. */
    private static void doesSlot0(LeverHall x, int kind, boolean second) {
        // slot 2 is done ahead of a second one: it gives 1, or FAILS so that a TRY goes on
        x.deed(2, kind == 10 ? 5 : 0, kind == 10 ? 0 : 1, 0, 0);
        x.fill(5, kind == 8 && second ? 100 : -100);
        if (kind == 9) {
            x.deed(1, 9, 0, 1, 0);
        } else if (kind == 13) {
            x.deed(3, 0, 1, 0, 0);
            Halls.everyPlace(x, 0, 3);
            x.lever(0, second ? 3 : 0, 0);
            x.deed(1, 13, 0, 0, 0);
        } else {
            x.deed(1, kind, second ? 2 : 0, second ? 0 : 2, 5);
        }
    }

    private static void deepInEachKind(Check check) {
        int[] kinds = {7, 8, 9, 10, 12, 13, 14};
        for (int kind : kinds) {
            for (boolean second : new boolean[] {false, true}) {
                if (second && (kind == 9 || kind == 12 || kind == 14)) {
                    continue;
                }
                LeverHall x = new LeverHall();
                x.deed(0, 0, 1, 0, 0);
                x.deed(0, 12, 0, 0, 0);
                x.copy(0, 19);
                Halls.around(x, 0, 13);
                doesSlot0(x, kind, second);
                x.act(1, 1);
                check.due("kind " + kind + " around 15, failed()", x.failed(), 0);
                check.due("the last is done, count(19)", x.count(19) > 0 ? 1 : 0, 1);
                int before = x.count(19);
                Halls.around(x, 0, 1);
                doesSlot0(x, kind, second);
                check.due("kind " + kind + " around 16", x.act(1, 1), 0);
                check.due("kind " + kind + " around 16, failed()", x.failed(), DEEP);
                check.due("the last is not done, count(19)", x.count(19), before);
            }
        }
    }

    private static void whoGaveDoesNotCount(Check check) {
        LeverHall x = new LeverHall();
        x.deed(0, 0, 1, 0, 0);
        Halls.around(x, 0, 14);
        x.deed(1, 7, 0, 0, 0);
        check.done("15 in a THEN, twice", x, x.act(1, 1), 1, 0, 31);
        x.deed(1, 9, 0, 3, 0);
        check.done("15 in a TIMES, three times", x, x.act(1, 1), 1, 0, 46);
        x.deed(2, 5, 0, 0, 0);
        Halls.around(x, 2, 14);
        x.deed(1, 10, 2, 0, 0);
        check.done("15 in a TRY, which FAIL, and 15 more", x, x.act(1, 1), 1, 0, 31);
        x.deed(3, 0, 1, 0, 0);
        Halls.around(x, 3, 13);
        Halls.everyPlace(x, 0, 3);
        x.deed(1, 13, 0, 0, 0);
        check.done("14 in a PULL, four times", x, x.act(1, 1), 1, 0, 57);
    }

    private static void laterIsNotDeep(Check check) {
        LeverHall x = new LeverHall();
        x.deed(0, 2, 9, 1, 0);
        x.deed(1, 11, 0, 0, 0);
        Halls.around(x, 1, 15);
        check.done("LATER as the 16th", x, x.act(1, 5), 1, 0, 16);
        check.done("what waited is the first", x, x.tick(), 1, 0, 1);
        check.due("basin(9)", x.basin(9), 5);
        Halls.around(x, 1, 1);
        check.done("LATER as the 17th", x, x.act(1, 5), 0, DEEP, 17);
        check.due("none waits, told(1)", x.told(1), 0);
    }

    private static void deepIsAStep(Check check) {
        LeverHall x = new LeverHall();
        x.deed(0, 14, 0, 0, 0);
        check.done("LOOK at itself", x, x.act(0, 1), 0, DEEP, 17);
        x.deed(1, 13, 1, 0, 0);
        Halls.everyPlace(x, 1, 1);
        check.done("PULL of itself", x, x.act(1, 1), 0, DEEP, 17);
        check.done("pull() of it", x, x.pull(1, 1), 0, DEEP, 17);
        Halls.waits(x, 0, 2, 2, 1);
        check.done("tick() of two", x, x.tick(), 0, DEEP, 34);
    }

    /** Puts a THEN into slot 10: n steps with itself, then a LOOK that looks at itself. */
    private static void thenDeep(LeverHall x, int n) {
        x.deed(9, 14, 9, 0, 0);
        Halls.takesSteps(x, 0, n - 1);
        x.deed(10, 7, 0, 9, 0);
    }

    private static void deepBehindTired(Check check) {
        LeverHall x = new LeverHall();
        // inside the THEN 15 LOOKs are done, and the 16th of them is DEEP
        thenDeep(x, 43);
        check.done("43 + 15 + 1 is 59", x, x.act(10, 1), 0, DEEP, 59);
        thenDeep(x, 44);
        check.done("44 + 15 + 1 is 60", x, x.act(10, 1), 0, DEEP, 60);
        thenDeep(x, 45);
        check.done("45 + 15 + 1 is 61", x, x.act(10, 1), 0, TIRED, 60);
    }

    private static void deepAheadOfMissing(Check check) {
        LeverHall x = new LeverHall();
        x.deed(0, 14, 19, 0, 0);
        x.deed(1, 13, 4, 0, 0);
        for (int slot = 0; slot < 2; slot++) {
            Halls.around(x, slot, 14);
            check.done("what is MISSING is the 16th", x, x.act(slot, 1), 0, MISSING, 16);
            Halls.around(x, slot, 1);
            check.done("what is MISSING is the 17th", x, x.act(slot, 1), 0, DEEP, 17);
        }
    }

    private static void tiredAheadOfMissing(Check check) {
        LeverHall x = new LeverHall();
        x.deed(9, 14, 19, 0, 0);
        Halls.takesSteps(x, 0, 57);
        x.deed(10, 7, 0, 9, 0);
        check.done("1 + 57 + 1, what is MISSING is the 60th", x, x.act(10, 1), 0, MISSING, 60);
        Halls.takesSteps(x, 0, 58);
        x.deed(10, 7, 0, 9, 0);
        check.done("1 + 58 + 1, what is MISSING is the 61st", x, x.act(10, 1), 0, TIRED, 60);
        Halls.takesSteps(x, 0, 20);
        Halls.everyPlace(x, 3, 0);
        x.lever(3, 3, -1);
        check.done("3 times 20, a place with none is the 61st", x, x.pull(3, 1), 0, TIRED, 60);
        Halls.takesSteps(x, 0, 19);
        x.lever(3, 0, 0);
        check.done("19, 20, 20, a place with none is the 60th", x, x.pull(3, 1), 0, MISSING, 60);
    }

    private static void failureEndsAll(Check check) {
        LeverHall x = new LeverHall();
        x.deed(0, 5, 0, 0, 0);
        x.deed(1, 2, 9, 1, 0);
        x.deed(2, 7, 0, 1, 0);
        check.done("THEN", x, x.act(2, 1), 0, ZERO, 2);
        x.deed(2, 8, 0, 1, 0);
        check.done("WHEN", x, x.act(2, 1), 0, ZERO, 2);
        x.deed(2, 9, 0, 5, 0);
        check.done("TIMES", x, x.act(2, 1), 0, ZERO, 2);
        x.deed(2, 12, 0, 0, 0);
        check.done("COUNT", x, x.act(2, 1), 0, ZERO, 2);
        check.due("count(2)", x.count(2), 0);
        x.lever(0, 0, 0);
        for (int place = 1; place < 4; place++) {
            x.lever(0, place, 1);
        }
        check.done("pull()", x, x.pull(0, 1), 0, ZERO, 1);
        x.deed(2, 13, 0, 0, 0);
        check.done("PULL", x, x.act(2, 1), 0, ZERO, 2);
        x.deed(3, 14, 2, 0, 0);
        check.done("LOOK", x, x.act(3, 1), 0, ZERO, 3);
        for (int n = 0; n < 5; n++) {
            x.deed(3, 7, 3, 1, 0);
        }
        check.done("five THENs around it", x, x.act(3, 1), 0, ZERO, 8);
        check.due("nothing behind it is done, basin(9)", x.basin(9), 0);
    }

    private static void failureEndsAtTry(Check check) {
        LeverHall x = new LeverHall();
        x.deed(0, 5, 0, 0, 0);
        x.deed(1, 2, 9, 1, 0);
        x.deed(2, 7, 0, 1, 0);
        x.deed(2, 9, 2, 5, 0);
        x.deed(3, 10, 2, 1, 0);
        check.done("what is in the TRY ends, and the other is done", x, x.act(3, 4), 4, 0, 5);
        x.deed(4, 7, 3, 1, 0);
        check.done("what the TRY is part of goes on", x, x.act(4, 4), 16, 0, 7);
        x.deed(5, 9, 3, 3, 0);
        x.fill(9, 0);
        check.done("three times", x, x.act(5, 1), 4, 0, 16);
        x.deed(6, 12, 3, 0, 0);
        check.done("it counts", x, x.act(6, 1), 1, 0, 6);
        check.due("told(3)", x.told(3), 0);
    }

    private static void whatWasChangedStays(Check check) {
        LeverHall x = new LeverHall();
        x.gauge(0, 1);
        x.fill(0, 10);
        x.deed(0, 1, 5, 0, 0);
        x.deed(1, 3, 0, 1, 0);
        x.deed(2, 4, 0, 0, 0);
        x.deed(3, 5, 0, 0, 0);
        x.deed(4, 12, 0, 0, 0);
        x.deed(5, 11, 0, 0, 0);
        int[] row = {4, 1, 2, 5};
        for (int place = 0; place < 4; place++) {
            x.lever(0, place, row[place]);
        }
        x.deed(6, 13, 0, 0, 0);
        x.deed(7, 7, 6, 3, 0);
        check.done("COUNT and SET, DRAW, MARK, LATER, then ZERO", x, x.act(7, 8), 0, ZERO, 8);
        check.due("COUNT gave 1, count(4)", x.count(4), 1);
        check.due("SET, basin(5)", x.basin(5), 8);
        check.due("DRAW 1, basin(0)", x.basin(0), 9);
        check.due("DRAW 1, basin(1)", x.basin(1), 1);
        check.due("MARK by 9, mark(0, 0)", x.mark(0, 0), 9);
        check.due("LATER, told(1)", x.told(1), 1);
        x.deed(8, 0, 77, 0, 0);
        x.deed(8, 10, 7, 8, 0);
        check.due("in a TRY", x.act(8, 3), 77);
        check.due("it stays, too, basin(5)", x.basin(5), 3);
        check.due("it stays, too, told(1)", x.told(1), 2);
    }
}
