import java.util.Map;

/** Promises 1 to 5, a new object, fill, basin, gauge, mark: each sentence, at both sides of each end. */
public final class HallEdgesTest {
    private static final int LOW = Halls.LOW, HIGH = Halls.HIGH, BAD = LeverHall.BAD;

    public static void main(String[] args) {
        Check check = new Check();
        check.sentence("Promise 1: BASINS 0", HallEdgesTest::newBasins);
        check.sentence("Promise 1: GAUGES without places", HallEdgesTest::newGauges);
        check.sentence("Promise 1: no DEEDS", HallEdgesTest::newHasNoDeeds);
        check.sentence("Promise 1: a new object has nothing of another one", HallEdgesTest::newIsApart);
        check.sentence("Promise 2: A BASIN holds v from now on: what it held", HallEdgesTest::fillHolds);
        check.sentence("Promise 2: 0, if there is none such", HallEdgesTest::fillNoneSuch);
        check.sentence("Promise 3: What a BASIN holds", HallEdgesTest::basinHolds);
        check.sentence("Promise 3: 0, if there is none such", HallEdgesTest::basinNoneSuch);
        check.sentence("Promise 4: of n places (0 .. 6)", HallEdgesTest::gaugePlaces);
        check.sentence("Promise 4: A GAUGE is a new one, with 0", HallEdgesTest::gaugeIsNew);
        check.sentence("Promise 4: BAD: a GAUGE that there is not", HallEdgesTest::gaugeBad);
        check.sentence("Promise 4: BAD: a number of places that there is not", HallEdgesTest::gaugePlacesBad);
        check.sentence("Promise 5: Place i of a GAUGE as it is", HallEdgesTest::markAsItIs);
        check.sentence("Promise 5: 0, if there is none such (a GAUGE)", HallEdgesTest::markNoGauge);
        check.sentence("Promise 5: 0, if there is none such (a place)", HallEdgesTest::markNoPlace);
        check.end();
    }

    private static void newBasins(Check check) {
        LeverHall x = new LeverHall();
        for (int k = -1; k <= 10; k++) {
            check.due("basin(" + k + ")", x.basin(k), 0);
        }
        for (int k = 0; k <= 9; k++) {
            check.due("fill(" + k + ", 1)", x.fill(k, 1), 0);
        }
    }

    private static void newGauges(Check check) {
        LeverHall x = new LeverHall();
        for (int g = 0; g <= 2; g++) {
            for (int i = -1; i <= 6; i++) {
                check.due("mark(" + g + ", " + i + ")", x.mark(g, i), 0);
                x.deed(0, 4, g, i, 0);
                check.done("MARK " + g + ", " + i, x, x.act(0, 1), 0, LeverHall.INDEX, 1);
                check.due("mark(" + g + ", " + i + ") again", x.mark(g, i), 0);
            }
        }
    }

    private static void newHasNoDeeds(Check check) {
        LeverHall x = new LeverHall();
        check.due("failed()", x.failed(), 0);
        for (int what = 0; what <= 4; what++) {
            check.due("told(" + what + ")", x.told(what), 0);
        }
        for (int slot = 0; slot <= 19; slot++) {
            check.due("drop(" + slot + ")", x.drop(slot), LeverHall.NONE);
            check.due("same(" + slot + ", " + slot + ")", x.same(slot, slot), 0);
        }
        check.done("tick(): none waits", x, x.tick(), 0, 0, 0);
        for (int lever = 0; lever <= 4; lever++) {
            check.done("pull(" + lever + ", 1)", x, x.pull(lever, 1), 0, LeverHall.MISSING, 1);
        }
        check.due("the first that is made", x.deed(19, 0, 0, 0, 0), 1);
    }

    private static void newIsApart(Check check) {
        Map<String, Integer> want = Twins.ask(new LeverHall());
        LeverHall other = new LeverHall();
        Halls.furnished();
        Twins.compare(check, "another one is furnished", Twins.ask(other), want);
    }

    private static void fillHolds(Check check) {
        LeverHall x = new LeverHall();
        for (int k : new int[] {0, 9}) {
            check.due("fill(" + k + ", LOW)", x.fill(k, LOW), 0);
            check.due("fill(" + k + ", HIGH)", x.fill(k, HIGH), LOW);
            check.due("fill(" + k + ", -1)", x.fill(k, -1), HIGH);
            check.due("basin(" + k + ")", x.basin(k), -1);
        }
        for (int k = 1; k <= 8; k++) {
            check.due("no other one, basin(" + k + ")", x.basin(k), 0);
        }
    }

    private static void fillNoneSuch(Check check) {
        for (int k : Halls.NO_BASINS) {
            Twins.unchanged(check, "fill(" + k + ", 77)", 0, x -> x.fill(k, 77));
            Twins.unchanged(check, "fill(" + k + ", 77) twice", 0, x -> x.fill(k, 77) + x.fill(k, 78));
        }
    }

    private static void basinHolds(Check check) {
        LeverHall x = new LeverHall();
        for (int k = 0; k <= 9; k++) {
            x.fill(k, LOW + k);
        }
        for (int k = 0; k <= 9; k++) {
            check.due("basin(" + k + ")", x.basin(k), LOW + k);
            check.due("basin(" + k + ") again", x.basin(k), LOW + k);
        }
    }

    private static void basinNoneSuch(Check check) {
        for (int k : Halls.NO_BASINS) {
            Twins.unchanged(check, "basin(" + k + ")", 0, x -> x.basin(k));
        }
    }

    private static void gaugePlaces(Check check) {
        LeverHall x = new LeverHall();
        for (int g = 0; g <= 2; g++) {
            for (int n = 0; n <= 6; n++) {
                check.due("gauge(" + g + ", " + n + ")", x.gauge(g, n), 1);
                x.deed(0, 4, g, n - 1, 0);
                check.done("the last place of " + n, x, x.act(0, 5), n == 0 ? 0 : 5, n == 0 ? LeverHall.INDEX : 0, 1);
                x.deed(0, 4, g, n, 0);
                check.done("no place of " + n, x, x.act(0, 5), 0, LeverHall.INDEX, 1);
            }
        }
    }

    private static void gaugeIsNew(Check check) {
        LeverHall x = new LeverHall();
        x.gauge(0, 6);
        x.gauge(2, 6);
        for (int i = 0; i <= 5; i++) {
            x.deed(i, 4, 2, i, 0);
            x.act(i, 7);
        }
        x.deed(6, 4, 0, 5, 0);
        x.act(6, 8);
        check.due("of as many places, gauge(2, 6)", x.gauge(2, 6), 1);
        for (int i = 0; i <= 5; i++) {
            check.due("mark(2, " + i + ")", x.mark(2, i), 0);
            check.due("the old one is still the MARK's", x.act(i, 1), 8);
            check.due("mark(2, " + i + ")", x.mark(2, i), 0);
        }
        check.due("no other one is new, mark(0, 5)", x.mark(0, 5), 8);
        x.deed(0, 4, 2, 5, 0);
        x.act(0, 3);
        check.due("gauge(2, 0)", x.gauge(2, 0), 1);
        check.due("mark(2, 5) of no places", x.mark(2, 5), 0);
        check.due("gauge(2, 6)", x.gauge(2, 6), 1);
        check.due("mark(2, 5) is not as before", x.mark(2, 5), 0);
    }

    private static void gaugeBad(Check check) {
        for (int g : Halls.NO_GAUGES) {
            for (int n : new int[] {0, 6, 7}) {
                Twins.unchanged(check, "gauge(" + g + ", " + n + ")", BAD, x -> x.gauge(g, n));
            }
        }
    }

    private static void gaugePlacesBad(Check check) {
        for (int n : new int[] {-1, 7, LOW, HIGH}) {
            for (int g = 0; g <= 2; g++) {
                int gauge = g;
                Twins.unchanged(check, "gauge(" + g + ", " + n + ")", BAD, x -> x.gauge(gauge, n));
            }
        }
    }

    private static void markAsItIs(Check check) {
        LeverHall x = new LeverHall();
        for (int g = 0; g <= 2; g++) {
            x.gauge(g, 6);
            for (int i = 0; i <= 5; i++) {
                x.deed(0, 4, g, i, 0);
                x.act(0, LOW + 10 * g + i);
            }
        }
        for (int g = 0; g <= 2; g++) {
            for (int i = 0; i <= 5; i++) {
                check.due("mark(" + g + ", " + i + ")", x.mark(g, i), LOW + 10 * g + i);
            }
        }
        x.deed(0, 4, 2, 5, 0);
        x.act(0, -1);
        check.due("as it is then, mark(2, 5)", x.mark(2, 5), LOW + 24);
    }

    private static void markNoGauge(Check check) {
        for (int g : Halls.NO_GAUGES) {
            Twins.unchanged(check, "mark(" + g + ", 5)", 0, x -> x.mark(g, 5));
        }
    }

    private static void markNoPlace(Check check) {
        // gauge 0 has 6 places with 7 at the last, gauge 1 has 2, gauge 2 none
        Twins.unchanged(check, "mark(0, 5)", 7, x -> x.mark(0, 5));
        for (int i : new int[] {-1, 6, LOW, HIGH}) {
            Twins.unchanged(check, "mark(0, " + i + ")", 0, x -> x.mark(0, i));
        }
        LeverHall x = new LeverHall();
        for (int n = 0; n <= 6; n++) {
            x.gauge(1, n);
            for (int i = 0; i < n; i++) {
                x.deed(0, 4, 1, i, 0);
                x.act(0, 9);
            }
            check.due("the last of " + n + ", mark(1, " + (n - 1) + ")", x.mark(1, n - 1), n == 0 ? 0 : 9);
            check.due("behind the last of " + n + ", mark(1, " + n + ")", x.mark(1, n), 0);
            check.due("ahead of the first of " + n + ", mark(1, -1)", x.mark(1, -1), 0);
        }
    }
}
