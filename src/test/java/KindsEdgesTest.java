/** 'Terms' on the kinds 0 to 14: what each gives, and has against it, at both sides of each end. */
public final class KindsEdgesTest {
    private static final int LOW = Halls.LOW, HIGH = Halls.HIGH;
    private static final int SHORT = LeverHall.SHORT, INDEX = LeverHall.INDEX, ZERO = LeverHall.ZERO;
    private static final int MISSING = LeverHall.MISSING, FULL = LeverHall.FULL;

    public static void main(String[] args) {
        Check check = new Check();
        check.sentence("Terms: by the number of its kind (0 .. 14)", KindsEdgesTest::kindsThatThereAre);
        check.sentence("Terms: 0 CONSTANT x: x", KindsEdgesTest::constant);
        check.sentence("Terms: 1 SET x: BASIN x becomes p: what it held", KindsEdgesTest::set);
        check.sentence("Terms: 2 ADD x, y: what it holds then", KindsEdgesTest::add);
        check.sentence("Terms: 2 ADD: p times y (all wraps)", KindsEdgesTest::addWraps);
        check.sentence("Terms: 3 DRAW: what x holds then", KindsEdgesTest::drawGives);
        check.sentence("Terms: 3 DRAW SHORT: p is below 0", KindsEdgesTest::drawBelowZero);
        check.sentence("Terms: 3 DRAW SHORT: or more than x holds", KindsEdgesTest::drawMoreThanHeld);
        check.sentence("Terms: 3 DRAW SHORT: (then nothing goes)", KindsEdgesTest::drawNothingGoes);
        check.sentence("Terms: 3 DRAW from a BASIN to itself", KindsEdgesTest::drawToItself);
        check.sentence("Terms: 4 MARK: the GAUGE that GAUGE x was, when the DEED was made", KindsEdgesTest::markGaugeOfThen);
        check.sentence("Terms: 4 MARK: grows by p: what it has then", KindsEdgesTest::markGrows);
        check.sentence("Terms: 4 MARK INDEX: it has no such place", KindsEdgesTest::markIndex);
        check.sentence("Terms: 5 PART x: p / x, cut toward 0 (all wraps)", KindsEdgesTest::part);
        check.sentence("Terms: 5 PART ZERO: by 0", KindsEdgesTest::partByZero);
        check.sentence("Terms: 6 SNAP: what BASIN x held when the DEED was made", KindsEdgesTest::snapOfThen);
        check.sentence("Terms: 6 SNAP: p and what it held (all wraps)", KindsEdgesTest::snapWraps);
        check.sentence("Terms: 7 THEN: x's, with p; y's, with what x's gave", KindsEdgesTest::then);
        check.sentence("Terms: 8 WHEN: y's, if BASIN z holds more than p, else x's", KindsEdgesTest::when);
        check.sentence("Terms: 9 TIMES: y times (0 .. 5)", KindsEdgesTest::times);
        check.sentence("Terms: 9 TIMES: (p, if y is 0)", KindsEdgesTest::timesZero);
        check.sentence("Terms: 10 TRY: x's; if that FAILS, y's (both with p)", KindsEdgesTest::tryOther);
        check.sentence("Terms: 10 TRY: every failure but TIRED, DEEP", KindsEdgesTest::tryTakesUp);
        check.sentence("Terms: 10 TRY: but by TIRED", KindsEdgesTest::tryTired);
        check.sentence("Terms: 10 TRY: but by DEEP", KindsEdgesTest::tryDeep);
        check.sentence("Terms: 11 LATER: waits, with p, at the end of the QUEUE: how many wait", KindsEdgesTest::later);
        check.sentence("Terms: 11 LATER FULL: 12 wait", KindsEdgesTest::laterFull);
        check.sentence("Terms: 12 COUNT: its own COUNT (0 at first) is one more: that", KindsEdgesTest::count);
        check.sentence("Terms: 12 COUNT: x's; then (not if that FAILS)", KindsEdgesTest::countOfFailure);
        check.sentence("Terms: 13 PULL: each with what the one before it gave: what came last", KindsEdgesTest::pull);
        check.sentence("Terms: 13 PULL: by PLACES as they are then", KindsEdgesTest::pullOfThen);
        check.sentence("Terms: 13 PULL MISSING: a PLACE has none", KindsEdgesTest::pullMissing);
        check.sentence("Terms: 14 LOOK: the DEED's that is in SLOT x then", KindsEdgesTest::look);
        check.sentence("Terms: 14 LOOK MISSING", KindsEdgesTest::lookMissing);
        check.end();
    }

    private static void kindsThatThereAre(Check check) {
        LeverHall x = new LeverHall();
        x.deed(1, 0, 0, 0, 0);
        for (int kind = 0; kind <= 14; kind++) {
            check.due("kind " + kind, x.deed(0, kind, 1, 1, 1), kind + 2);
        }
        for (int kind : Halls.NO_KINDS) {
            check.due("kind " + kind, x.deed(0, kind, 1, 1, 1), LeverHall.BAD);
        }
    }

    private static void constant(Check check) {
        LeverHall x = new LeverHall();
        // what a deed gives may be below 0: failed() tells that it is neither a failure nor a refusal
        for (int v : new int[] {LOW, -9, -8, -2, -1, 0, 1, HIGH}) {
            x.deed(0, 0, v, 0, 0);
            for (int p : new int[] {LOW, -1, 0, 1, HIGH}) {
                check.done("CONSTANT " + v + " with " + p, x, x.act(0, p), v, 0, 1);
            }
        }
        check.due("told(3)", x.told(3), 0);
    }

    private static void set(Check check) {
        LeverHall x = new LeverHall();
        for (int k : new int[] {0, 9}) {
            x.deed(0, 1, k, 0, 0);
            check.done("SET LOW", x, x.act(0, LOW), 0, 0, 1);
            check.due("basin(" + k + ")", x.basin(k), LOW);
            check.done("SET HIGH", x, x.act(0, HIGH), LOW, 0, 1);
            check.due("basin(" + k + ")", x.basin(k), HIGH);
            check.done("SET 0", x, x.act(0, 0), HIGH, 0, 1);
            check.due("basin(" + k + ")", x.basin(k), 0);
        }
    }

    private static void add(Check check) {
        LeverHall x = new LeverHall();
        for (int k : new int[] {0, 9}) {
            x.fill(k, 10);
            x.deed(0, 2, k, -3, 0);
            check.done("ADD -3 times 5", x, x.act(0, 5), -5, 0, 1);
            check.done("ADD -3 times 0", x, x.act(0, 0), -5, 0, 1);
            check.done("ADD -3 times -5", x, x.act(0, -5), 10, 0, 1);
            x.deed(0, 2, k, 0, 0);
            check.done("ADD 0 times HIGH", x, x.act(0, HIGH), 10, 0, 1);
            check.due("basin(" + k + ")", x.basin(k), 10);
        }
    }

    private static void addWraps(Check check) {
        LeverHall x = new LeverHall();
        x.deed(0, 2, 0, HIGH, 0);
        check.due("2 times HIGH", x.act(0, 2), -2);
        x.fill(0, 7);
        x.deed(0, 2, 0, 65536, 0);
        check.due("65536 times 65536, and 7", x.act(0, 65536), 7);
        x.fill(0, 0);
        x.deed(0, 2, 0, LOW, 0);
        check.due("-1 times LOW", x.act(0, -1), LOW);
        check.due("1 times LOW, and LOW", x.act(0, 1), 0);
        check.due("LOW times LOW", x.act(0, LOW), 0);
    }

    private static void drawGives(Check check) {
        LeverHall x = new LeverHall();
        x.fill(0, 10);
        x.fill(9, 3);
        x.deed(0, 3, 0, 9, 0);
        check.done("0 of 10", x, x.act(0, 0), 10, 0, 1);
        check.done("1 of 10", x, x.act(0, 1), 9, 0, 1);
        check.done("9 of 9", x, x.act(0, 9), 0, 0, 1);
        check.due("basin(0)", x.basin(0), 0);
        check.due("basin(9)", x.basin(9), 13);
        x.fill(0, HIGH);
        x.fill(9, LOW);
        check.done("HIGH of HIGH", x, x.act(0, HIGH), 0, 0, 1);
        check.due("basin(9)", x.basin(9), -1);
    }

    private static void drawBelowZero(Check check) {
        LeverHall x = new LeverHall();
        x.deed(0, 3, 0, 1, 0);
        for (int held : new int[] {10, 0, HIGH, -1, LOW}) {
            x.fill(0, held);
            check.done("-1 of " + held, x, x.act(0, -1), 0, SHORT, 1);
            check.done("LOW of " + held, x, x.act(0, LOW), 0, SHORT, 1);
        }
        x.fill(0, 0);
        check.done("0 of 0", x, x.act(0, 0), 0, 0, 1);
    }

    private static void drawMoreThanHeld(Check check) {
        LeverHall x = new LeverHall();
        x.deed(0, 3, 0, 1, 0);
        for (int held : new int[] {0, 1, 10, HIGH - 1}) {
            x.fill(0, held);
            check.done("one more than " + held, x, x.act(0, held + 1), 0, SHORT, 1);
            check.done("as much as " + held, x, x.act(0, held), 0, 0, 1);
        }
        for (int held : new int[] {-1, LOW}) {
            x.fill(0, held);
            check.done("0 of " + held, x, x.act(0, 0), 0, SHORT, 1);
            check.done("HIGH of " + held, x, x.act(0, HIGH), 0, SHORT, 1);
        }
    }

    private static void drawNothingGoes(Check check) {
        LeverHall x = new LeverHall();
        x.deed(0, 3, 0, 9, 0);
        x.fill(0, 10);
        x.fill(9, 20);
        for (int p : new int[] {11, HIGH, -1, LOW}) {
            check.done("DRAW " + p, x, x.act(0, p), 0, SHORT, 1);
            check.due("basin(0)", x.basin(0), 10);
            check.due("basin(9)", x.basin(9), 20);
        }
    }

    private static void drawToItself(Check check) {
        LeverHall x = new LeverHall();
        x.fill(5, 7);
        x.deed(0, 3, 5, 5, 0);
        check.done("7 of 7", x, x.act(0, 7), 7, 0, 1);
        check.done("0 of 7", x, x.act(0, 0), 7, 0, 1);
        check.done("8 of 7", x, x.act(0, 8), 0, SHORT, 1);
        check.done("-1 of 7", x, x.act(0, -1), 0, SHORT, 1);
        check.due("basin(5)", x.basin(5), 7);
    }

    private static void markGaugeOfThen(Check check) {
        LeverHall x = new LeverHall();
        x.gauge(1, 3);
        x.deed(0, 4, 1, 2, 0);
        x.deed(1, 4, 1, 2, 0);
        x.act(0, 5);
        check.due("another MARK of the same gauge", x.act(1, 6), 11);
        for (int n : new int[] {3, 6, 0, 2}) {
            int before = x.act(0, 0);
            x.gauge(1, n);
            check.done("MARK goes on, now that it is of " + n, x, x.act(0, 1), before + 1, 0, 1);
            check.due("mark(1, 2) of the new one", x.mark(1, 2), 0);
        }
        x.gauge(1, 3);
        x.deed(2, 4, 1, 2, 0);
        check.due("a MARK of the new one", x.act(2, 4), 4);
        check.due("mark(1, 2)", x.mark(1, 2), 4);
        check.due("the old one still", x.act(1, 0), 15);
    }

    private static void markGrows(Check check) {
        LeverHall x = new LeverHall();
        x.gauge(0, 6);
        x.deed(0, 4, 0, 0, 0);
        x.deed(5, 4, 0, 5, 0);
        check.done("place 0 by 3", x, x.act(0, 3), 3, 0, 1);
        check.done("place 5 by LOW", x, x.act(5, LOW), LOW, 0, 1);
        check.done("place 0 by -4", x, x.act(0, -4), -1, 0, 1);
        check.done("place 5 by -1 wraps", x, x.act(5, -1), HIGH, 0, 1);
        check.done("place 0 by 0", x, x.act(0, 0), -1, 0, 1);
        check.due("mark(0, 0)", x.mark(0, 0), -1);
        check.due("mark(0, 5)", x.mark(0, 5), HIGH);
    }

    private static void markIndex(Check check) {
        for (int n = 0; n <= 6; n++) {
            LeverHall x = new LeverHall();
            x.gauge(2, n);
            for (int y : new int[] {LOW, -1, 0, n - 1, n, 6, HIGH}) {
                boolean there = y >= 0 && y < n;
                x.deed(0, 4, 2, y, 0);
                int before = x.mark(2, y);
                check.done("place " + y + " of " + n, x, x.act(0, 4), there ? before + 4 : 0, there ? 0 : INDEX, 1);
                check.due("mark(2, " + y + ") of " + n, x.mark(2, y), there ? before + 4 : 0);
            }
        }
    }

    private static void part(Check check) {
        LeverHall x = new LeverHall();
        int[][] parts = {
            {7, 2, 3}, {-7, 2, -3}, {7, -2, -3}, {-7, -2, 3}, {1, 2, 0}, {-1, 2, 0}, {0, 5, 0}, {0, -1, 0},
            {HIGH, 1, HIGH}, {HIGH, -1, -HIGH}, {LOW, 1, LOW}, {LOW, -1, LOW}, {LOW, LOW, 1}, {HIGH, LOW, 0},
            {LOW, HIGH, -1}, {LOW, 2, LOW / 2}, {LOW + 1, -1, HIGH}};
        for (int[] part : parts) {
            x.deed(0, 5, part[1], 0, 0);
            check.done(part[0] + " / " + part[1], x, x.act(0, part[0]), part[2], 0, 1);
        }
    }

    private static void partByZero(Check check) {
        LeverHall x = new LeverHall();
        x.deed(0, 5, 0, 7, 7);
        for (int p : new int[] {0, 1, -1, LOW, HIGH}) {
            check.done(p + " / 0", x, x.act(0, p), 0, ZERO, 1);
        }
        for (int by : new int[] {1, -1}) {
            x.deed(0, 5, by, 0, 0);
            check.done("6 / " + by, x, x.act(0, 6), 6 * by, 0, 1);
        }
    }

    private static void snapOfThen(Check check) {
        LeverHall x = new LeverHall();
        for (int k : new int[] {0, 9}) {
            x.fill(k, 30);
            x.deed(0, 6, k, 0, 0);
            x.fill(k, 99);
            check.done("SNAP of 30", x, x.act(0, 5), 35, 0, 1);
            check.due("basin(" + k + ") is as it was", x.basin(k), 99);
            x.copy(0, 1);
            x.deed(0, 6, k, 0, 0);
            check.due("SNAP of 99", x.act(0, 5), 104);
            check.due("the one before", x.act(1, 5), 35);
        }
    }

    private static void snapWraps(Check check) {
        LeverHall x = new LeverHall();
        x.fill(0, HIGH);
        x.deed(0, 6, 0, 0, 0);
        check.due("HIGH and 0", x.act(0, 0), HIGH);
        check.due("HIGH and 1", x.act(0, 1), LOW);
        x.fill(0, LOW);
        x.deed(0, 6, 0, 0, 0);
        check.due("LOW and -1", x.act(0, -1), HIGH);
        check.due("LOW and LOW", x.act(0, LOW), 0);
    }

    private static void then(Check check) {
        LeverHall x = new LeverHall();
        x.deed(0, 5, 2, 0, 0);
        x.deed(1, 1, 0, 0, 0);
        x.deed(2, 7, 0, 1, 0);
        x.fill(0, 8);
        check.done("a half, then SET", x, x.act(2, 50), 8, 0, 3);
        check.due("basin(0)", x.basin(0), 25);
        x.deed(2, 7, 1, 0, 0);
        check.done("SET, then a half", x, x.act(2, 50), 12, 0, 3);
        check.due("basin(0)", x.basin(0), 50);
        x.deed(2, 7, 0, 0, 0);
        check.done("the same deed twice", x, x.act(2, 50), 12, 0, 3);
    }

    private static void when(Check check) {
        LeverHall x = new LeverHall();
        x.deed(0, 0, 100, 0, 0);
        x.deed(1, 0, 200, 0, 0);
        for (int z : new int[] {0, 9}) {
            x.deed(2, 8, 0, 1, z);
            int[][] cases = {
                {10, 9, 200}, {10, 10, 100}, {10, 11, 100}, {0, -1, 200}, {0, 0, 100}, {-1, -1, 100}, {-1, 0, 100},
                {HIGH, HIGH - 1, 200}, {HIGH, HIGH, 100}, {HIGH, LOW, 200}, {LOW, LOW, 100}, {LOW, HIGH, 100},
                {LOW + 1, LOW, 200}};
            for (int[] c : cases) {
                x.fill(z, c[0]);
                check.done("basin " + z + " holds " + c[0] + ", p is " + c[1], x, x.act(2, c[1]), c[2], 0, 2);
            }
        }
        x.deed(1, 1, 5, 0, 0);
        x.deed(2, 8, 1, 1, 0);
        x.act(2, 77);
        check.due("it is done with p, basin(5)", x.basin(5), 77);
    }

    private static void times(Check check) {
        LeverHall x = new LeverHall();
        x.fill(0, 3);
        x.deed(0, 6, 0, 0, 0);
        for (int y = 0; y <= 5; y++) {
            check.due("TIMES " + y, x.deed(1, 9, 0, y, 0), y + 2);
            check.done("3 more, " + y + " times", x, x.act(1, 10), 10 + 3 * y, 0, 1 + y);
        }
        for (int y : Halls.NO_TIMES) {
            check.due("TIMES " + y, x.deed(1, 9, 0, y, 0), LeverHall.BAD);
        }
    }

    private static void timesZero(Check check) {
        LeverHall x = new LeverHall();
        x.deed(0, 5, 0, 0, 0);
        x.deed(1, 9, 0, 0, 0);
        for (int p : new int[] {0, -1, LOW, HIGH}) {
            check.done("0 times, what would FAIL", x, x.act(1, p), p, 0, 1);
        }
        x.deed(1, 9, 0, 1, 0);
        check.done("once", x, x.act(1, 1), 0, ZERO, 2);
    }

    private static void tryOther(Check check) {
        LeverHall x = new LeverHall();
        x.deed(0, 2, 0, 1, 0);
        x.deed(1, 2, 1, 1, 0);
        x.deed(2, 10, 0, 1, 0);
        check.done("x's does not FAIL", x, x.act(2, 6), 6, 0, 2);
        check.due("y's is not done, basin(1)", x.basin(1), 0);
        x.deed(3, 5, 0, 0, 0);
        x.deed(4, 0, 40, 0, 0);
        x.deed(4, 7, 4, 3, 0);
        x.deed(2, 10, 4, 1, 0);
        check.done("x's FAILS behind a CONSTANT", x, x.act(2, 6), 6, 0, 5);
        check.due("y's is done with p, basin(1)", x.basin(1), 6);
        x.deed(5, 3, 9, 9, 0);
        x.deed(2, 10, 3, 5, 0);
        check.done("both FAIL: by y's", x, x.act(2, 6), 0, SHORT, 3);
        x.deed(6, 10, 2, 1, 0);
        check.done("a TRY around it", x, x.act(6, 1), 7, 0, 5);
        x.deed(6, 10, 3, 2, 0);
        check.done("a TRY as the other", x, x.act(6, 1), 0, SHORT, 5);
    }

    private static void tryTakesUp(Check check) {
        LeverHall x = new LeverHall();
        x.deed(0, 0, 50, 0, 0);
        int[][] failing = {{3, 0, 0, SHORT, 1}, {4, 0, 0, INDEX, 1}, {5, 0, 0, ZERO, 1}, {13, 0, 0, MISSING, 2},
            {14, 19, 0, MISSING, 2}, {11, 0, 0, FULL, 1}};
        Halls.waits(x, 0, 1, 12, 1);
        for (int[] f : failing) {
            x.deed(2, f[0], f[1], f[2], 0);
            check.done("kind " + f[0] + " alone", x, x.act(2, 1), 0, f[3], f[4]);
            int failures = x.told(3);
            x.deed(3, 10, 2, 0, 0);
            check.done("kind " + f[0] + " in a TRY", x, x.act(3, 1), 50, 0, f[4] + 2);
            check.due("what was taken up is no failure, told(3)", x.told(3), failures);
        }
    }

    private static void tryTired(Check check) {
        LeverHall x = new LeverHall();
        x.deed(19, 1, 9, 0, 0);
        Halls.takesSteps(x, 0, 58);
        // a failure as the 60th step, and the other one has none left
        x.deed(10, 5, 0, 0, 0);
        x.deed(11, 10, 10, 19, 0);
        x.deed(12, 9, 0, 1, 0);
        x.deed(13, 10, 12, 19, 0);
        check.done("1 + 1 + 58 is 60", x, x.act(13, 5), 1, 0, 60);
        Halls.takesSteps(x, 0, 59);
        x.deed(12, 9, 0, 1, 0);
        x.deed(13, 10, 12, 19, 0);
        check.done("1 + 1 + 59 is 61", x, x.act(13, 5), 0, LeverHall.TIRED, 60);
        check.due("y's is not done, basin(9)", x.basin(9), 0);
        x.deed(14, 10, 13, 19, 0);
        check.done("nor in a TRY around it", x, x.act(14, 5), 0, LeverHall.TIRED, 60);
        Halls.takesSteps(x, 0, 57);
        x.deed(12, 7, 0, 11, 0);
        check.done("1 + 57 + 1 + 1: y's is the 61st", x, x.act(12, 5), 0, LeverHall.TIRED, 60);
        check.due("y's is not done, basin(9)", x.basin(9), 0);
        Halls.takesSteps(x, 0, 56);
        x.deed(12, 7, 0, 11, 0);
        check.done("1 + 56 + 1 + 1 + 1: y's is the 60th", x, x.act(12, 5), 0, 0, 60);
        check.due("y's is done, basin(9)", x.basin(9), 1);
    }

    private static void tryDeep(Check check) {
        LeverHall x = new LeverHall();
        x.deed(0, 0, 5, 0, 0);
        x.deed(1, 1, 9, 0, 0);
        Halls.around(x, 0, 14);
        x.deed(2, 10, 0, 1, 0);
        check.done("16 open", x, x.act(2, 3), 5, 0, 16);
        Halls.around(x, 0, 1);
        x.deed(2, 10, 0, 1, 0);
        check.done("17 open", x, x.act(2, 3), 0, LeverHall.DEEP, 17);
        x.deed(3, 10, 2, 1, 0);
        check.done("in a TRY around it", x, x.act(3, 3), 0, LeverHall.DEEP, 17);
        check.due("y's is not done, basin(9)", x.basin(9), 0);
    }

    private static void later(Check check) {
        LeverHall x = new LeverHall();
        x.deed(0, 1, 0, 0, 0);
        x.deed(1, 2, 0, 10, 0);
        x.deed(2, 11, 0, 0, 0);
        x.deed(3, 11, 1, 0, 0);
        check.done("SET HIGH waits", x, x.act(2, HIGH), 1, 0, 1);
        check.done("SET 7 waits behind it", x, x.act(2, 7), 2, 0, 1);
        check.done("ADD 2 waits at the end", x, x.act(3, 2), 3, 0, 1);
        check.due("none is done yet, basin(0)", x.basin(0), 0);
        check.due("told(1)", x.told(1), 3);
        check.done("tick()", x, x.tick(), 3, 0, 3);
        check.due("basin(0)", x.basin(0), 27);
        x.act(3, LOW);
        x.act(2, LOW);
        x.tick();
        check.due("the other order, basin(0)", x.basin(0), LOW);
        x.deed(4, 5, 0, 0, 0);
        x.deed(4, 11, 4, 0, 0);
        check.done("what will FAIL waits like any", x, x.act(4, 1), 1, 0, 1);
    }

    private static void laterFull(Check check) {
        // the queue is filled anew after each tick(), so that its end comes to lie anywhere
        LeverHall x = new LeverHall();
        x.deed(0, 2, 0, 1, 0);
        x.deed(1, 11, 0, 0, 0);
        for (int round = 0; round < 5; round++) {
            x.fill(0, 0);
            for (int n = 1; n <= 12; n++) {
                check.due("LATER " + n, x.act(1, n), n);
            }
            check.due("failed() of the 12th", x.failed(), 0);
            check.done("LATER 13", x, x.act(1, 1000), 0, FULL, 1);
            check.due("told(1)", x.told(1), 12);
            check.due("tick()", x.tick(), 12);
            check.due("the 13th did not wait, basin(0)", x.basin(0), 78);
            for (int n = 0; n < 5; n++) {
                x.act(1, 1);
            }
            check.due("tick() of 5", x.tick(), 5);
        }
    }

    private static void count(Check check) {
        LeverHall x = new LeverHall();
        x.deed(0, 0, 70, 0, 0);
        x.deed(1, 12, 0, 0, 0);
        check.due("count(1) at first", x.count(1), 0);
        for (int n = 1; n <= 3; n++) {
            check.done("COUNT " + n, x, x.act(1, LOW), n, 0, 2);
            check.due("count(1)", x.count(1), n);
        }
        x.deed(2, 12, 0, 0, 0);
        check.due("another of the same deed has its own", x.act(2, 1), 1);
        x.deed(3, 12, 1, 0, 0);
        check.done("a COUNT of a COUNT", x, x.act(3, 1), 1, 0, 3);
        check.due("count(1)", x.count(1), 4);
        x.deed(4, 2, 9, 1, 0);
        x.deed(5, 12, 4, 0, 0);
        x.act(5, 6);
        check.due("x's is done with p, basin(9)", x.basin(9), 6);
    }

    private static void countOfFailure(Check check) {
        LeverHall x = new LeverHall();
        x.deed(0, 3, 0, 1, 0);
        x.deed(1, 12, 0, 0, 0);
        x.fill(0, 1);
        check.done("1 of 1", x, x.act(1, 1), 1, 0, 2);
        check.done("1 of 0", x, x.act(1, 1), 0, SHORT, 2);
        check.due("count(1)", x.count(1), 1);
        x.deed(2, 10, 1, 1, 0);
        check.done("in a TRY, twice", x, x.act(2, 1), 0, SHORT, 5);
        check.due("count(1)", x.count(1), 1);
        x.fill(0, 1);
        check.done("1 of 1 again", x, x.act(1, 1), 2, 0, 2);
    }

    private static void pull(Check check) {
        for (int lever : new int[] {0, 4}) {
            LeverHall x = new LeverHall();
            x.deed(0, 5, 2, 0, 0);
            x.deed(1, 1, 9, 0, 0);
            x.fill(0, 4);
            x.deed(2, 6, 0, 0, 0);
            x.fill(9, 30);
            x.lever(lever, 0, 0);
            x.lever(lever, 1, 2);
            x.lever(lever, 2, 1);
            x.lever(lever, 3, 0);
            x.deed(3, 13, lever, 0, 0);
            check.done("100 / 2, and 4, SET gives 30, / 2", x, x.act(3, 100), 15, 0, 5);
            check.due("basin(9)", x.basin(9), 54);
        }
    }

    private static void pullOfThen(Check check) {
        LeverHall x = new LeverHall();
        x.deed(0, 13, 4, 0, 0);
        x.deed(1, 0, 5, 0, 0);
        x.deed(2, 0, 6, 0, 0);
        check.done("none is there when it is made", x, x.act(0, 1), 0, MISSING, 2);
        Halls.everyPlace(x, 4, 1);
        check.done("all are there", x, x.act(0, 1), 5, 0, 5);
        x.deed(3, 13, 4, 0, 0);
        x.lever(4, 3, 2);
        check.done("another is there", x, x.act(0, 1), 6, 0, 5);
        check.done("another than when it was made", x, x.act(3, 1), 6, 0, 5);
        x.lever(4, 3, -1);
        check.done("none is there again", x, x.act(0, 1), 0, MISSING, 5);
        check.done("none, but there was when it was made", x, x.act(3, 1), 0, MISSING, 5);
    }

    private static void pullMissing(Check check) {
        for (int missing = 0; missing < 4; missing++) {
            LeverHall x = new LeverHall();
            x.deed(0, 2, 9, 0, 0);
            x.deed(1, 12, 0, 0, 0);
            x.deed(2, 13, 2, 0, 0);
            Halls.everyPlace(x, 2, 1);
            x.lever(2, missing, -1);
            check.done("PULL without place " + missing, x, x.act(2, 1), 0, MISSING, 2 + 2 * missing);
            check.due("those ahead of it are done, those behind it not, count(1)", x.count(1), missing);
        }
    }

    private static void look(Check check) {
        LeverHall x = new LeverHall();
        for (int slot : new int[] {0, 19}) {
            x.deed(1, 14, slot, 0, 0);
            x.deed(slot, 0, 5, 0, 0);
            check.done("LOOK at slot " + slot, x, x.act(1, 1), 5, 0, 2);
            x.deed(2, 14, slot, 0, 0);
            x.deed(slot, 5, 2, 0, 0);
            check.done("LOOK at another, with p", x, x.act(1, 9), 4, 0, 2);
            check.done("LOOK that was made when there was one", x, x.act(2, 9), 4, 0, 2);
            x.copy(1, 3);
            x.drop(1);
            check.done("LOOK from another slot", x, x.act(3, 8), 4, 0, 2);
        }
    }

    private static void lookMissing(Check check) {
        LeverHall x = new LeverHall();
        for (int slot : new int[] {0, 19}) {
            check.due("LOOK may be made at none", x.deed(1, 14, slot, 0, 0) > 0 ? 1 : 0, 1);
            check.done("LOOK at slot " + slot, x, x.act(1, 1), 0, MISSING, 2);
            x.deed(slot, 0, 5, 0, 0);
            check.done("LOOK when it is there", x, x.act(1, 1), 5, 0, 2);
            x.deed(2, 14, slot, 0, 0);
            x.drop(slot);
            check.done("LOOK when it is not any more", x, x.act(1, 1), 0, MISSING, 2);
            check.done("LOOK that was made when it was there", x, x.act(2, 1), 0, MISSING, 2);
        }
        for (int slot : Halls.NO_SLOTS) {
            check.due("LOOK at slot " + slot, x.deed(1, 14, slot, 0, 0), LeverHall.BAD);
        }
    }
}
