/** The sentences of 'What it is', at the head of the document; each has a test of its own. */
public final class WhatItIsTest {
    private static final int SET = 1, ADD = 2, DRAW = 3, MARK = 4, PART = 5, SNAP = 6, THEN = 7, WHEN = 8;
    private static final int LATER = 11, COUNT = 12, PULL = 13, LOOK = 14;

    public static void main(String[] args) {
        Check check = new Check();
        check.sentence("What it is: water goes between basins", WhatItIsTest::waterGoes);
        check.sentence("What it is: deeds are made of numbers as they are then", WhatItIsTest::numbersOfThen);
        check.sentence("What it is: deeds are made of gauges as they are then", WhatItIsTest::gaugesOfThen);
        check.sentence("What it is: deeds are made of other deeds as they are then", WhatItIsTest::deedsOfThen);
        check.sentence("What it is: and hold these", WhatItIsTest::heldBeyondDrop);
        check.sentence("What it is: some look at the hall only when they are done", WhatItIsTest::lookWhenDone);
        check.sentence("What it is: levers do rows of them, one behind the other", WhatItIsTest::rows);
        check.sentence("What it is: what a deed has against it ends what it is part of", WhatItIsTest::againstIt);
        check.sentence("What it is: or is not there, ends what it is part of", WhatItIsTest::notThere);
        check.sentence("What it is: BASINS 0 .. and 9 (one sentence)", WhatItIsTest::basinsToNine);
        check.end();
    }

    private static void waterGoes(Check check) {
        LeverHall x = new LeverHall();
        x.fill(0, 30);
        x.fill(9, 4);
        x.deed(0, DRAW, 0, 9, 0);
        check.due("act(0, 30)", x.act(0, 30), 0);
        check.due("basin(0)", x.basin(0), 0);
        check.due("basin(9)", x.basin(9), 34);
    }

    private static void numbersOfThen(Check check) {
        LeverHall x = new LeverHall();
        x.fill(3, 7);
        x.deed(0, SNAP, 3, 0, 0);
        x.fill(3, 1000);
        check.due("a SNAP of 7, with 1", x.act(0, 1), 8);
        x.deed(1, SNAP, 3, 0, 0);
        check.due("a SNAP of 1000, with 1", x.act(1, 1), 1001);
        check.due("a SNAP of 7, with 2", x.act(0, 2), 9);
    }

    private static void gaugesOfThen(Check check) {
        LeverHall x = new LeverHall();
        x.deed(0, MARK, 2, 0, 0);
        x.gauge(2, 1);
        x.deed(1, MARK, 2, 0, 0);
        x.gauge(2, 1);
        x.deed(2, MARK, 2, 0, 0);
        check.done("a MARK of no places", x, x.act(0, 5), 0, LeverHall.INDEX, 1);
        check.done("a MARK of the gauge before", x, x.act(1, 5), 5, 0, 1);
        check.due("mark(2, 0)", x.mark(2, 0), 0);
        check.done("a MARK of the gauge as it is", x, x.act(2, 6), 6, 0, 1);
        check.due("mark(2, 0) then", x.mark(2, 0), 6);
    }

    private static void deedsOfThen(Check check) {
        LeverHall x = new LeverHall();
        x.deed(0, 0, 10, 0, 0);
        x.deed(1, SNAP, 0, 0, 0);
        x.deed(2, THEN, 0, 1, 0);
        x.fill(0, 100);
        x.deed(0, 0, 20, 0, 0);
        x.deed(1, SNAP, 0, 0, 0);
        check.done("a THEN of the deeds before", x, x.act(2, 1), 10, 0, 3);
        x.deed(2, THEN, 0, 1, 0);
        check.done("a THEN of the deeds of now", x, x.act(2, 1), 120, 0, 3);
    }

    private static void heldBeyondDrop(Check check) {
        LeverHall x = new LeverHall();
        x.deed(0, ADD, 4, 1, 0);
        x.deed(1, COUNT, 0, 0, 0);
        x.deed(2, THEN, 1, 0, 0);
        x.drop(0);
        x.drop(1);
        check.done("a THEN of deeds that no slot has", x, x.act(2, 3), 4, 0, 4);
        check.due("basin(4)", x.basin(4), 4);
        check.done("the same once more", x, x.act(2, 3), 9, 0, 4);
        check.due("basin(4) then", x.basin(4), 9);
        check.due("told(4)", x.told(4), 1);
    }

    private static void lookWhenDone(Check check) {
        LeverHall x = new LeverHall();
        x.deed(0, 0, 1, 0, 0);
        x.deed(1, 0, 2, 0, 0);
        x.deed(2, WHEN, 0, 1, 5);
        x.deed(3, LOOK, 0, 0, 0);
        x.deed(4, PULL, 3, 0, 0);
        check.due("WHEN, as basin 5 holds 0", x.act(2, 0), 1);
        x.fill(5, 1);
        check.due("WHEN, as basin 5 holds 1", x.act(2, 0), 2);
        check.due("LOOK at slot 0", x.act(3, 0), 1);
        x.copy(1, 0);
        check.due("LOOK at slot 0 with another", x.act(3, 0), 2);
        Halls.everyPlace(x, 3, 1);
        check.due("PULL of lever 3", x.act(4, 0), 2);
        x.lever(3, 3, 3);
        x.deed(0, 0, 77, 0, 0);
        check.due("PULL of lever 3 with another", x.act(4, 0), 77);
    }

    private static void rows(Check check) {
        LeverHall x = new LeverHall();
        x.fill(0, 5);
        x.deed(0, SNAP, 0, 0, 0);
        x.deed(1, PART, 2, 0, 0);
        x.deed(2, SET, 1, 0, 0);
        x.deed(3, ADD, 1, 10, 0);
        x.fill(1, 3);
        int[] row = {0, 1, 2, 3};
        for (int place = 0; place < 4; place++) {
            x.lever(2, place, row[place]);
        }
        // 9 + 5 is 14, / 2 is 7, basin 1 becomes 7 and held 3, and grows by 3 times 10
        check.done("pull(2, 9)", x, x.pull(2, 9), 37, 0, 4);
        check.due("basin(1)", x.basin(1), 37);
    }

    /** Lets a deed that fails be in a THEN and at a place of a lever, each with one behind it that must not be done. */
    private static void endsAll(Check check, LeverHall x, int slot, int p, int why) {
        x.deed(18, SET, 8, 0, 0);
        x.fill(8, -1);
        x.deed(19, THEN, slot, 18, 0);
        int before = x.told(3);
        check.due("act of a THEN around " + why, x.act(19, p), 0);
        check.due("failed()", x.failed(), why);
        check.due("what is behind it in a THEN is not done", x.basin(8), -1);
        Halls.everyPlace(x, 1, 18);
        x.lever(1, 0, 19);
        check.due("pull of a lever with it", x.pull(1, p), 0);
        check.due("failed() then", x.failed(), why);
        check.due("what is behind it in a lever is not done", x.basin(8), -1);
        check.due("told(3)", x.told(3), before + 2);
    }

    private static void againstIt(Check check) {
        LeverHall x = new LeverHall();
        x.fill(0, 5);
        x.deed(0, DRAW, 0, 1, 0);
        endsAll(check, x, 0, 6, LeverHall.SHORT);
        x.gauge(0, 2);
        x.deed(0, MARK, 0, 2, 0);
        endsAll(check, x, 0, 1, LeverHall.INDEX);
        x.deed(0, PART, 0, 0, 0);
        endsAll(check, x, 0, 1, LeverHall.ZERO);
        x.deed(0, 0, 1, 0, 0);
        Halls.waits(x, 0, 1, 12, 1);
        endsAll(check, x, 1, 1, LeverHall.FULL);
        x.clear();
        x.deed(0, LOOK, 0, 0, 0);
        endsAll(check, x, 0, 1, LeverHall.DEEP);
        Halls.takesSteps(x, 0, 60);
        endsAll(check, x, 0, 1, LeverHall.TIRED);
    }

    private static void notThere(Check check) {
        LeverHall x = new LeverHall();
        x.deed(0, LOOK, 7, 0, 0);
        endsAll(check, x, 0, 1, LeverHall.MISSING);
        x.deed(0, PULL, 4, 0, 0);
        endsAll(check, x, 0, 1, LeverHall.MISSING);
        x.deed(1, LATER, 0, 0, 0);
        check.done("a LATER of it does not do it", x, x.act(1, 1), 1, 0, 1);
        check.done("tick()", x, x.tick(), 0, LeverHall.MISSING, 2);
    }

    private static void basinsToNine(Check check) {
        LeverHall x = new LeverHall();
        for (int k = -2; k < 13; k++) {
            boolean there = k >= 0 && k <= 9;
            check.due("fill(" + k + ", 6)", x.fill(k, 6), 0);
            check.due("basin(" + k + ")", x.basin(k), there ? 6 : 0);
            check.due("SET of " + k, x.deed(0, SET, k, 0, 0), there ? k + 1 : LeverHall.BAD);
        }
    }
}
