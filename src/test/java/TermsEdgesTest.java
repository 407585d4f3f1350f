/** 'Terms' on basins, gauges, slots, levers, makings and refusals: each sentence, at both sides of each end. */
public final class TermsEdgesTest {
    private static final int LOW = Halls.LOW, HIGH = Halls.HIGH, BAD = LeverHall.BAD, NONE = LeverHall.NONE;

    public static void main(String[] args) {
        Check check = new Check();
        check.sentence("Terms: BASINS 0 .. 9", TermsEdgesTest::basinsThatThereAre);
        check.sentence("Terms: BASINS hold ints", TermsEdgesTest::basinsHoldInts);
        check.sentence("Terms: BASINS (0 at first", TermsEdgesTest::basinsAtFirst);
        check.sentence("Terms: BASINS (.. sums wrap)", TermsEdgesTest::basinSumsWrap);
        check.sentence("Terms: GAUGES 0 .. 2", TermsEdgesTest::gaugesThatThereAre);
        check.sentence("Terms: GAUGES have up to 6 places", TermsEdgesTest::gaugesOfSixPlaces);
        check.sentence("Terms: GAUGES have places with ints", TermsEdgesTest::placesOfGaugesHoldInts);
        check.sentence("Terms: there are none at first (a GAUGE of no places)", TermsEdgesTest::gaugesAtFirst);
        check.sentence("Terms: SLOTS 0 .. 19", TermsEdgesTest::slotsThatThereAre);
        check.sentence("Terms: SLOTS hold a DEED, or none (at first)", TermsEdgesTest::slotsAtFirst);
        check.sentence("Terms: LEVERS 0 .. 4", TermsEdgesTest::leversThatThereAre);
        check.sentence("Terms: LEVERS have 4 PLACES", TermsEdgesTest::leversOfFourPlaces);
        check.sentence("Terms: PLACES, each with a DEED, or none (at first)", TermsEdgesTest::placesAtFirst);
        check.sentence("Terms: Each making makes a new DEED", TermsEdgesTest::makingMakesNew);
        check.sentence("Terms: into the SLOT that is told, instead of what was there", TermsEdgesTest::insteadOfWhatWas);
        check.sentence("Terms: who holds that goes on with it (a DEED's first)", TermsEdgesTest::firstGoesOn);
        check.sentence("Terms: who holds that goes on with it (a DEED's second)", TermsEdgesTest::secondGoesOn);
        check.sentence("Terms: who holds that goes on with it (a SLOT)", TermsEdgesTest::slotGoesOn);
        check.sentence("Terms: who holds that goes on with it (a PLACE)", TermsEdgesTest::placeGoesOn);
        check.sentence("Terms: who holds that goes on with it (the QUEUE)", TermsEdgesTest::queueGoesOn);
        check.sentence("Terms: refusals, the first that a call names: deed", TermsEdgesTest::deedNamesBadFirst);
        check.sentence("Terms: refusals, the first that a call names: copy", TermsEdgesTest::copyNamesBadFirst);
        check.sentence("Terms: refusals, the first that a call names: lever", TermsEdgesTest::leverNamesBadFirst);
        check.sentence("Terms: what is refused changes nothing (any call)", TermsEdgesTest::refusedChangesNothing);
        check.end();
    }

    private static void basinsThatThereAre(Check check) {
        LeverHall x = new LeverHall();
        for (int k = 0; k <= 9; k++) {
            check.due("fill(" + k + ", ..)", x.fill(k, 70 + k), 0);
        }
        check.due("SET of basin 0", x.deed(0, 1, 0, 0, 0), 1);
        check.due("SET of basin 9", x.deed(0, 1, 9, 0, 0), 2);
        for (int k : Halls.NO_BASINS) {
            check.due("fill(" + k + ", 5)", x.fill(k, 5), 0);
            check.due("basin(" + k + ")", x.basin(k), 0);
            check.due("SET of basin " + k, x.deed(0, 1, k, 0, 0), BAD);
        }
        for (int k = 0; k <= 9; k++) {
            check.due("basin(" + k + ")", x.basin(k), 70 + k);
        }
    }

    private static void basinsHoldInts(Check check) {
        LeverHall x = new LeverHall();
        for (int v : new int[] {LOW, LOW + 1, -1, 0, 1, HIGH - 1, HIGH}) {
            x.fill(0, v);
            x.fill(9, v);
            check.due("basin(0) of " + v, x.basin(0), v);
            check.due("basin(9) of " + v, x.basin(9), v);
        }
    }

    private static void basinsAtFirst(Check check) {
        LeverHall x = new LeverHall();
        for (int k = 0; k <= 9; k++) {
            check.due("basin(" + k + ")", x.basin(k), 0);
            x.deed(k, 6, k, 0, 0);
            check.due("SNAP of basin " + k, x.act(k, 3), 3);
        }
    }

    private static void basinSumsWrap(Check check) {
        LeverHall x = new LeverHall();
        x.deed(0, 2, 0, 1, 0);
        x.fill(0, HIGH - 1);
        check.due("HIGH - 1 and 1", x.act(0, 1), HIGH);
        check.due("HIGH and 1", x.act(0, 1), LOW);
        check.due("LOW and -1", x.act(0, -1), HIGH);
        x.fill(0, LOW);
        check.due("LOW and LOW", x.act(0, LOW), 0);
        x.fill(1, 5);
        x.fill(2, HIGH);
        x.deed(1, 3, 1, 2, 0);
        check.due("5 go into HIGH", x.act(1, 5), 0);
        check.due("basin(2)", x.basin(2), LOW + 4);
    }

    private static void gaugesThatThereAre(Check check) {
        LeverHall x = new LeverHall();
        for (int g = 0; g <= 2; g++) {
            check.due("gauge(" + g + ", 1)", x.gauge(g, 1), 1);
            check.due("MARK of gauge " + g, x.deed(g, 4, g, 0, 0), g + 1);
            x.act(g, 50 + g);
        }
        for (int g : Halls.NO_GAUGES) {
            check.due("gauge(" + g + ", 1)", x.gauge(g, 1), BAD);
            check.due("mark(" + g + ", 0)", x.mark(g, 0), 0);
            check.due("MARK of gauge " + g, x.deed(0, 4, g, 0, 0), BAD);
        }
        for (int g = 0; g <= 2; g++) {
            check.due("mark(" + g + ", 0)", x.mark(g, 0), 50 + g);
        }
    }

    private static void gaugesOfSixPlaces(Check check) {
        LeverHall x = new LeverHall();
        for (int g = 0; g <= 2; g++) {
            check.due("gauge(" + g + ", 6)", x.gauge(g, 6), 1);
            for (int i = 0; i <= 5; i++) {
                x.deed(0, 4, g, i, 0);
                check.done("place " + i, x, x.act(0, 10 * g + i + 1), 10 * g + i + 1, 0, 1);
            }
            check.due("gauge(" + g + ", 7)", x.gauge(g, 7), BAD);
            x.deed(0, 4, g, 6, 0);
            check.done("place 6", x, x.act(0, 1), 0, LeverHall.INDEX, 1);
            check.due("mark(" + g + ", 6)", x.mark(g, 6), 0);
        }
        for (int g = 0; g <= 2; g++) {
            for (int i = 0; i <= 5; i++) {
                check.due("mark(" + g + ", " + i + ")", x.mark(g, i), 10 * g + i + 1);
            }
        }
    }

    private static void placesOfGaugesHoldInts(Check check) {
        LeverHall x = new LeverHall();
        x.gauge(2, 6);
        x.deed(0, 4, 2, 5, 0);
        check.due("0 and HIGH", x.act(0, HIGH), HIGH);
        check.due("HIGH and 1 wraps", x.act(0, 1), LOW);
        check.due("mark(2, 5)", x.mark(2, 5), LOW);
        check.due("LOW and -1 wraps", x.act(0, -1), HIGH);
        check.due("mark(2, 5)", x.mark(2, 5), HIGH);
    }

    private static void gaugesAtFirst(Check check) {
        LeverHall x = new LeverHall();
        for (int g = 0; g <= 2; g++) {
            check.due("mark(" + g + ", 0)", x.mark(g, 0), 0);
            check.due("MARK of gauge " + g, x.deed(g, 4, g, 0, 0), g + 1);
            check.done("place 0 of gauge " + g, x, x.act(g, 5), 0, LeverHall.INDEX, 1);
            x.gauge(g, 6);
            check.done("it was of no places when the MARK was made", x, x.act(g, 5), 0, LeverHall.INDEX, 1);
            check.due("mark(" + g + ", 0) of the new one", x.mark(g, 0), 0);
        }
    }

    private static void slotsThatThereAre(Check check) {
        LeverHall x = new LeverHall();
        for (int slot = 0; slot <= 19; slot++) {
            check.due("deed(" + slot + ", ..)", x.deed(slot, 0, 30 + slot, 0, 0), slot + 1);
        }
        for (int slot : Halls.NO_SLOTS) {
            check.due("deed(" + slot + ", ..)", x.deed(slot, 0, 9, 0, 0), BAD);
            check.done("act(" + slot + ", 1)", x, x.act(slot, 1), 0, BAD, 0);
        }
        for (int slot = 0; slot <= 19; slot++) {
            check.due("act(" + slot + ", 1)", x.act(slot, 1), 30 + slot);
        }
    }

    private static void slotsAtFirst(Check check) {
        LeverHall x = new LeverHall();
        for (int slot = 0; slot <= 19; slot++) {
            check.done("act(" + slot + ", 1)", x, x.act(slot, 1), 0, NONE, 0);
            check.due("drop(" + slot + ")", x.drop(slot), NONE);
        }
        check.due("told(4)", x.told(4), 0);
    }

    /** Makes a SNAP that gives p and v. */
    private static void adds(LeverHall x, int slot, int v) {
        x.fill(0, v);
        x.deed(slot, 6, 0, 0, 0);
    }

    private static void leversThatThereAre(Check check) {
        LeverHall x = new LeverHall();
        for (int lever = 0; lever <= 4; lever++) {
            adds(x, 0, 1 << lever);
            for (int place = 0; place < 4; place++) {
                check.due("lever(" + lever + ", " + place + ", 0)", x.lever(lever, place, 0), 1);
            }
        }
        for (int lever : Halls.NO_LEVERS) {
            check.due("lever(" + lever + ", 0, 0)", x.lever(lever, 0, 0), BAD);
            check.done("pull(" + lever + ", 1)", x, x.pull(lever, 1), 0, BAD, 0);
            check.due("PULL of lever " + lever, x.deed(1, 13, lever, 0, 0), BAD);
        }
        for (int lever = 0; lever <= 4; lever++) {
            check.done("pull(" + lever + ", 1)", x, x.pull(lever, 1), (4 << lever) + 1, 0, 4);
        }
    }

    private static void leversOfFourPlaces(Check check) {
        LeverHall x = new LeverHall();
        for (int lever = 0; lever <= 4; lever++) {
            for (int place = 0; place <= 3; place++) {
                // 1 << k is in the sum of the lever that has the k-th alone
                adds(x, 0, 1 << 4 * lever + place);
                check.due("lever(" + lever + ", " + place + ", 0)", x.lever(lever, place, 0), 1);
            }
            for (int place : Halls.NO_PLACES) {
                check.due("lever(" + lever + ", " + place + ", 0)", x.lever(lever, place, 0), BAD);
            }
        }
        for (int lever = 0; lever <= 4; lever++) {
            check.done("pull(" + lever + ", 0)", x, x.pull(lever, 0), 15 << 4 * lever, 0, 4);
        }
    }

    private static void placesAtFirst(Check check) {
        for (int missing = 0; missing < 4; missing++) {
            LeverHall x = new LeverHall();
            x.deed(0, 0, 5, 0, 0);
            for (int lever = 0; lever <= 4; lever++) {
                for (int place = 0; place < 4; place++) {
                    if (place != missing) {
                        x.lever(lever, place, 0);
                    }
                }
                check.done("lever " + lever + " without place " + missing, x, x.pull(lever, 1),
                        0, LeverHall.MISSING, missing + 1);
            }
        }
    }

    private static void makingMakesNew(Check check) {
        LeverHall x = new LeverHall();
        x.deed(0, 0, 1, 0, 0);
        x.deed(1, 12, 0, 0, 0);
        x.deed(2, 12, 0, 0, 0);
        check.due("two of the same numbers", x.same(1, 2), 0);
        x.act(1, 1);
        check.due("count(1)", x.count(1), 1);
        check.due("count(2)", x.count(2), 0);
        x.copy(1, 3);
        x.deed(1, 12, 0, 0, 0);
        check.due("made once more", x.same(1, 3), 0);
        check.due("count(1) of the new one", x.count(1), 0);
        check.due("count(3) of the old one", x.count(3), 1);
    }

    private static void insteadOfWhatWas(Check check) {
        LeverHall x = new LeverHall();
        for (int slot : new int[] {0, 19}) {
            x.deed(slot, 0, 1, 0, 0);
            x.deed(slot, 0, 2, 0, 0);
            check.due("act(" + slot + ", 0)", x.act(slot, 0), 2);
        }
        check.due("told(4)", x.told(4), 2);
        check.due("told(0)", x.told(0), 4);
        check.done("no other slot", x, x.act(1, 0), 0, NONE, 0);
        check.due("a deed of what was in its own slot", x.deed(0, 9, 0, 1, 0), 5);
        check.done("act(0, 0)", x, x.act(0, 0), 2, 0, 2);
    }

    /** Another deed is in a slot, or none. */
    private static void replace(LeverHall x, int slot, boolean another) {
        if (another) {
            x.deed(slot, 0, 99, 0, 0);
        } else {
            x.drop(slot);
        }
    }

    private static void firstGoesOn(Check check) {
        for (boolean another : new boolean[] {true, false}) {
            for (int kind = 7; kind <= 12; kind++) {
                LeverHall x = new LeverHall();
                x.deed(0, 2, 7, 1, 0);
                x.deed(1, 0, 1, 0, 0);
                x.deed(2, kind, 0, 1, 0);
                replace(x, 0, another);
                x.act(2, 3);
                x.tick();
                check.due("kind " + kind + "'s ADD is done, basin(7)", x.basin(7), 3);
            }
        }
    }

    private static void secondGoesOn(Check check) {
        for (boolean another : new boolean[] {true, false}) {
            for (int kind : new int[] {7, 8, 10}) {
                LeverHall x = new LeverHall();
                // a THEN goes on to its second, a TRY needs a first that fails, a WHEN a basin with more than p
                x.deed(0, kind == 10 ? 5 : 0, kind == 7 ? 3 : 0, 0, 0);
                x.deed(1, 2, 7, 1, 0);
                x.fill(9, 4);
                x.deed(2, kind, 0, 1, 9);
                replace(x, 1, another);
                check.due("kind " + kind, x.act(2, 3), 3);
                check.due("kind " + kind + "'s second is done, basin(7)", x.basin(7), 3);
            }
        }
    }

    private static void slotGoesOn(Check check) {
        for (boolean another : new boolean[] {true, false}) {
            LeverHall x = new LeverHall();
            x.deed(0, 0, 5, 0, 0);
            x.copy(0, 19);
            replace(x, 0, another);
            check.due("act(19, 1)", x.act(19, 1), 5);
        }
    }

    private static void placeGoesOn(Check check) {
        for (boolean another : new boolean[] {true, false}) {
            LeverHall x = new LeverHall();
            x.deed(0, 0, 5, 0, 0);
            Halls.everyPlace(x, 4, 0);
            replace(x, 0, another);
            check.done("pull(4, 1)", x, x.pull(4, 1), 5, 0, 4);
        }
    }

    private static void queueGoesOn(Check check) {
        for (boolean another : new boolean[] {true, false}) {
            LeverHall x = new LeverHall();
            x.deed(0, 2, 7, 1, 0);
            Halls.waits(x, 0, 1, 12, 3);
            replace(x, 0, another);
            replace(x, 1, another);
            check.done("tick()", x, x.tick(), 12, 0, 12);
            check.due("basin(7)", x.basin(7), 36);
        }
    }

    private static void deedNamesBadFirst(Check check) {
        LeverHall x = new LeverHall();
        int[][] calls = {
            {20, 7, 0, 0, 0}, {-1, 12, 0, 0, 0}, {0, 7, 0, 20, 0}, {0, 7, 0, -1, 0}, {0, 7, 20, 0, 0}, {0, 7, -1, 0, 0},
            {0, 8, 0, 20, 0}, {0, 8, -1, 0, 0}, {0, 8, 0, 0, 10}, {0, 8, 0, 0, -1}, {0, 9, 0, 6, 0}, {0, 9, 0, -1, 0},
            {0, 10, 0, 20, 0}, {0, 10, -1, 0, 0}, {20, 11, 0, 0, 0}};
        for (int[] c : calls) {
            check.due("deed(" + c[0] + ", " + c[1] + ", " + c[2] + ", " + c[3] + ", " + c[4] + ") of slots with none",
                    x.deed(c[0], c[1], c[2], c[3], c[4]), BAD);
        }
        check.due("and with none of these, deed(0, 8, 0, 0, 9)", x.deed(0, 8, 0, 0, 9), NONE);
    }

    private static void copyNamesBadFirst(Check check) {
        LeverHall x = new LeverHall();
        for (int to : Halls.NO_SLOTS) {
            check.due("copy of none to slot " + to, x.copy(0, to), BAD);
        }
        check.due("copy of none to slot 19", x.copy(0, 19), NONE);
    }

    private static void leverNamesBadFirst(Check check) {
        LeverHall x = new LeverHall();
        for (int lever : Halls.NO_LEVERS) {
            check.due("lever(" + lever + ", 0, 0) of none", x.lever(lever, 0, 0), BAD);
        }
        for (int place : Halls.NO_PLACES) {
            check.due("lever(0, " + place + ", 0) of none", x.lever(0, place, 0), BAD);
        }
        check.due("lever(4, 3, 19) of none", x.lever(4, 3, 19), NONE);
    }

    private static void refusedChangesNothing(Check check) {
        Twins.unchanged(check, "gauge(0, 7)", BAD, x -> x.gauge(0, 7));
        Twins.unchanged(check, "deed(2, 15, 0, 0, 0)", BAD, x -> x.deed(2, 15, 0, 0, 0));
        Twins.unchanged(check, "deed(2, 7, 16, 0, 0)", NONE, x -> x.deed(2, 7, 16, 0, 0));
        Twins.unchanged(check, "copy(2, 20)", BAD, x -> x.copy(2, 20));
        Twins.unchanged(check, "copy(16, 2)", NONE, x -> x.copy(16, 2));
        Twins.unchanged(check, "drop(20)", BAD, x -> x.drop(20));
        Twins.unchanged(check, "drop(16)", NONE, x -> x.drop(16));
        Twins.unchanged(check, "lever(0, 0, 20)", BAD, x -> x.lever(0, 0, 20));
        Twins.unchanged(check, "lever(0, 0, 16)", NONE, x -> x.lever(0, 0, 16));
        Twins.unchanged(check, "same(12, 20)", BAD, x -> x.same(12, 20));
        Twins.unchanged(check, "count(20)", BAD, x -> x.count(20));
        Twins.unchanged(check, "count(16)", NONE, x -> x.count(16));
        Twins.unchanged(check, "told(5)", BAD, x -> x.told(5));
        Twins.refusedDoing(check, "act(20, 1)", BAD, x -> x.act(20, 1));
        Twins.refusedDoing(check, "act(16, 1)", NONE, x -> x.act(16, 1));
        Twins.refusedDoing(check, "pull(5, 1)", BAD, x -> x.pull(5, 1));
    }
}
