/** Promises 6 to 11, deed, copy, drop, lever, same, count: each sentence, at both sides of each end. */
public final class DeedsEdgesTest {
    private static final int LOW = Halls.LOW, HIGH = Halls.HIGH, BAD = LeverHall.BAD, NONE = LeverHall.NONE;
    private static final int[] ANY = {LOW, -1, 0, 5, 20, HIGH};
    /** In a furnished hall slots 16 to 19 have none. */
    private static final int[] EMPTY = {16, 19};

    public static void main(String[] args) {
        Check check = new Check();
        check.sentence("Promise 6: of x, y, z as far as the kind names them", DeedsEdgesTest::deedOfWhatIsNamed);
        check.sentence("Promise 6: (any x of CONSTANT, PART)", DeedsEdgesTest::deedOfAnyX);
        check.sentence("Promise 6: (any y of ADD, MARK)", DeedsEdgesTest::deedOfAnyY);
        check.sentence("Promise 6: into a SLOT: how many were made", DeedsEdgesTest::deedsMade);
        check.sentence("Promise 6: BAD: the SLOT", DeedsEdgesTest::deedBadSlot);
        check.sentence("Promise 6: BAD: the kind", DeedsEdgesTest::deedBadKind);
        check.sentence("Promise 6: BAD: a BASIN that there is not", DeedsEdgesTest::deedBadBasin);
        check.sentence("Promise 6: BAD: a GAUGE that there is not", DeedsEdgesTest::deedBadGauge);
        check.sentence("Promise 6: BAD: a SLOT that there is not", DeedsEdgesTest::deedBadHeldSlot);
        check.sentence("Promise 6: BAD: a LEVER that there is not", DeedsEdgesTest::deedBadLever);
        check.sentence("Promise 6: BAD: a number of TIMES that there is not", DeedsEdgesTest::deedBadTimes);
        check.sentence("Promise 6: NONE: a SLOT of a DEED that it is to hold has none", DeedsEdgesTest::deedNone);
        check.sentence("Promise 6: NONE: PULL and LOOK hold no DEED", DeedsEdgesTest::deedThatHoldsNone);
        check.sentence("Promise 7: The DEED in SLOT from is in SLOT to, too: 1", DeedsEdgesTest::copied);
        check.sentence("Promise 7: BAD", DeedsEdgesTest::copyBad);
        check.sentence("Promise 7: NONE", DeedsEdgesTest::copyNone);
        check.sentence("Promise 8: A SLOT has none any more: 1", DeedsEdgesTest::dropped);
        check.sentence("Promise 8: BAD", DeedsEdgesTest::dropBad);
        check.sentence("Promise 8: NONE", DeedsEdgesTest::dropNone);
        check.sentence("Promise 9: The DEED in a SLOT is at a PLACE of a LEVER, too: 1", DeedsEdgesTest::leverPlace);
        check.sentence("Promise 9: none, if slot is -1", DeedsEdgesTest::leverPlaceOfNone);
        check.sentence("Promise 9: BAD: the LEVER", DeedsEdgesTest::leverBad);
        check.sentence("Promise 9: BAD: the PLACE", DeedsEdgesTest::leverBadPlace);
        check.sentence("Promise 9: BAD: the SLOT", DeedsEdgesTest::leverBadSlot);
        check.sentence("Promise 9: NONE", DeedsEdgesTest::leverNone);
        check.sentence("Promise 10: Whether the same DEED is in both SLOTS: 1, 0", DeedsEdgesTest::same);
        check.sentence("Promise 10: 0 (also where there is none)", DeedsEdgesTest::sameWhereNone);
        check.sentence("Promise 10: BAD", DeedsEdgesTest::sameBad);
        check.sentence("Promise 11: The COUNT of the DEED in a SLOT", DeedsEdgesTest::counted);
        check.sentence("Promise 11: BAD", DeedsEdgesTest::countBad);
        check.sentence("Promise 11: NONE: no DEED of kind 12", DeedsEdgesTest::countNone);
        check.end();
    }

    private static void good(Check check, int kind, int x, int y, int z) {
        LeverHall hall = Halls.furnished();
        check.due("deed(16, " + kind + ", " + x + ", " + y + ", " + z + ")", hall.deed(16, kind, x, y, z), 16);
        check.due("told(4)", hall.told(4), 17);
    }

    /** The call is refused and changes nothing, be it into a slot that has a deed or into one that has none. */
    private static void refused(Check check, int want, int kind, int x, int y, int z) {
        for (int slot : new int[] {2, 16}) {
            Twins.unchanged(check, "deed(" + slot + ", " + kind + ", " + x + ", " + y + ", " + z + ")", want,
                    hall -> hall.deed(slot, kind, x, y, z));
        }
    }

    private static void deedOfWhatIsNamed(Check check) {
        for (int any : ANY) {
            good(check, 0, 1, any, any);
            good(check, 1, 9, any, any);
            good(check, 2, 9, 1, any);
            good(check, 3, 9, 9, any);
            good(check, 4, 2, 0, any);
            good(check, 5, 1, any, any);
            good(check, 6, 9, any, any);
            good(check, 7, 15, 0, any);
            good(check, 9, 15, 5, any);
            good(check, 10, 15, 0, any);
            good(check, 11, 15, any, any);
            good(check, 12, 15, any, any);
            good(check, 13, 4, any, any);
            good(check, 14, 19, any, any);
        }
    }

    private static void deedOfAnyX(Check check) {
        for (int any : ANY) {
            good(check, 0, any, 0, 0);
            good(check, 5, any, 0, 0);
        }
        LeverHall x = new LeverHall();
        x.deed(0, 0, LOW, 0, 0);
        check.due("CONSTANT LOW", x.act(0, 1), LOW);
        x.deed(0, 5, LOW, 0, 0);
        check.due("PART LOW", x.act(0, LOW), 1);
    }

    private static void deedOfAnyY(Check check) {
        for (int any : ANY) {
            good(check, 2, 0, any, 0);
            good(check, 4, 0, any, 0);
        }
        LeverHall x = new LeverHall();
        x.deed(0, 2, 0, LOW, 0);
        check.due("ADD LOW", x.act(0, 1), LOW);
        x.deed(0, 4, 0, LOW, 0);
        check.done("MARK LOW", x, x.act(0, 1), 0, LeverHall.INDEX, 1);
    }

    private static void deedsMade(Check check) {
        LeverHall x = new LeverHall();
        for (int n = 1; n <= 45; n++) {
            check.due("deed " + n, x.deed(n % 20, 0, n, 0, 0), n);
            check.due("told(0)", x.told(0), n);
            x.drop(n % 20);
            x.deed(20, 0, 0, 0, 0);
        }
    }

    private static void deedBadSlot(Check check) {
        for (int slot : Halls.NO_SLOTS) {
            for (int kind = 0; kind <= 14; kind++) {
                int k = kind;
                Twins.unchanged(check, "deed(" + slot + ", " + kind + ", 1, 1, 1)", BAD, x -> x.deed(slot, k, 1, 1, 1));
            }
        }
        check.due("deed(0, ..)", Halls.furnished().deed(0, 0, 1, 1, 1), 16);
        check.due("deed(19, ..)", Halls.furnished().deed(19, 0, 1, 1, 1), 16);
    }

    private static void deedBadKind(Check check) {
        for (int kind : Halls.NO_KINDS) {
            refused(check, BAD, kind, 1, 1, 1);
        }
        good(check, 0, 1, 1, 1);
        good(check, 14, 1, 1, 1);
    }

    private static void deedBadBasin(Check check) {
        for (int k : Halls.NO_BASINS) {
            refused(check, BAD, 1, k, 0, 0);
            refused(check, BAD, 2, k, 0, 0);
            refused(check, BAD, 3, k, 0, 0);
            refused(check, BAD, 3, 0, k, 0);
            refused(check, BAD, 6, k, 0, 0);
            refused(check, BAD, 8, 0, 0, k);
        }
        for (int k : new int[] {0, 9}) {
            good(check, 1, k, 0, 0);
            good(check, 2, k, 0, 0);
            good(check, 3, k, 0, 0);
            good(check, 3, 0, k, 0);
            good(check, 6, k, 0, 0);
            good(check, 8, 0, 0, k);
        }
    }

    private static void deedBadGauge(Check check) {
        for (int g : Halls.NO_GAUGES) {
            refused(check, BAD, 4, g, 0, 0);
        }
        good(check, 4, 0, 0, 0);
        good(check, 4, 2, 0, 0);
    }

    private static void deedBadHeldSlot(Check check) {
        for (int slot : Halls.NO_SLOTS) {
            for (int kind : new int[] {7, 8, 9, 10, 11, 12, 14}) {
                refused(check, BAD, kind, slot, 0, 0);
            }
            for (int kind : new int[] {7, 8, 10}) {
                refused(check, BAD, kind, 0, slot, 0);
            }
        }
        for (int slot : new int[] {0, 19}) {
            for (int kind : new int[] {7, 8, 9, 10, 11, 12, 14}) {
                LeverHall x = new LeverHall();
                x.deed(slot, 0, 1, 0, 0);
                check.due("kind " + kind + " of slot " + slot, x.deed(5, kind, slot, kind == 9 ? 0 : slot, 0), 2);
            }
        }
    }

    private static void deedBadLever(Check check) {
        for (int lever : Halls.NO_LEVERS) {
            refused(check, BAD, 13, lever, 0, 0);
        }
        good(check, 13, 0, 0, 0);
        good(check, 13, 4, 0, 0);
    }

    private static void deedBadTimes(Check check) {
        for (int times : Halls.NO_TIMES) {
            refused(check, BAD, 9, 0, times, 0);
        }
        for (int times = 0; times <= 5; times++) {
            good(check, 9, 0, times, 0);
        }
    }

    private static void deedNone(Check check) {
        for (int slot : EMPTY) {
            for (int kind = 7; kind <= 12; kind++) {
                refused(check, NONE, kind, slot, 0, 0);
            }
            for (int kind : new int[] {7, 8, 10}) {
                refused(check, NONE, kind, 0, slot, 0);
                refused(check, NONE, kind, slot, slot, 0);
            }
        }
        // the y of TIMES is no slot, nor is that of LATER and COUNT a number that they name
        good(check, 9, 15, 0, 0);
        good(check, 11, 15, 16, 16);
        good(check, 12, 15, 16, 16);
        LeverHall x = new LeverHall();
        check.due("of itself, where none is yet", x.deed(0, 12, 0, 0, 0), NONE);
    }

    private static void deedThatHoldsNone(Check check) {
        LeverHall x = new LeverHall();
        check.due("PULL of a lever of no deeds", x.deed(0, 13, 4, 0, 0), 1);
        check.due("LOOK at a slot with none", x.deed(0, 14, 19, 0, 0), 2);
        check.due("LOOK at its own slot", x.deed(5, 14, 5, 0, 0), 3);
    }

    private static void copied(Check check) {
        LeverHall x = new LeverHall();
        x.deed(0, 0, 5, 0, 0);
        x.deed(1, 0, 6, 0, 0);
        check.due("copy(0, 19), where none is", x.copy(0, 19), 1);
        check.due("copy(19, 1), instead of another", x.copy(19, 1), 1);
        check.due("copy(0, 0), to itself", x.copy(0, 0), 1);
        for (int slot : new int[] {0, 1, 19}) {
            check.due("act(" + slot + ", 0)", x.act(slot, 0), 5);
            check.due("same(0, " + slot + ")", x.same(0, slot), 1);
        }
        check.due("told(0), a copy is no making", x.told(0), 2);
        check.due("told(4)", x.told(4), 3);
    }

    private static void copyBad(Check check) {
        for (int slot : Halls.NO_SLOTS) {
            Twins.unchanged(check, "copy(" + slot + ", 2)", BAD, x -> x.copy(slot, 2));
            Twins.unchanged(check, "copy(2, " + slot + ")", BAD, x -> x.copy(2, slot));
            Twins.unchanged(check, "copy(16, " + slot + ")", BAD, x -> x.copy(16, slot));
            Twins.unchanged(check, "copy(" + slot + ", " + slot + ")", BAD, x -> x.copy(slot, slot));
        }
    }

    private static void copyNone(Check check) {
        for (int slot : EMPTY) {
            Twins.unchanged(check, "copy(" + slot + ", 2)", NONE, x -> x.copy(slot, 2));
            Twins.unchanged(check, "copy(" + slot + ", 17)", NONE, x -> x.copy(slot, 17));
            Twins.unchanged(check, "copy(" + slot + ", " + slot + ")", NONE, x -> x.copy(slot, slot));
        }
    }

    private static void dropped(Check check) {
        LeverHall x = new LeverHall();
        for (int slot : new int[] {0, 19}) {
            x.deed(slot, 0, 5, 0, 0);
            x.copy(slot, 10);
            check.due("drop(" + slot + ")", x.drop(slot), 1);
            check.done("act(" + slot + ", 1)", x, x.act(slot, 1), 0, NONE, 0);
            check.due("drop(" + slot + ") again", x.drop(slot), NONE);
            check.due("the other slot still has it", x.act(10, 1), 5);
            check.due("told(4)", x.told(4), 1);
        }
        check.due("told(0), a drop makes none unmade", x.told(0), 2);
    }

    private static void dropBad(Check check) {
        for (int slot : Halls.NO_SLOTS) {
            Twins.unchanged(check, "drop(" + slot + ")", BAD, x -> x.drop(slot));
        }
    }

    private static void dropNone(Check check) {
        for (int slot : EMPTY) {
            Twins.unchanged(check, "drop(" + slot + ")", NONE, x -> x.drop(slot));
        }
    }

    private static void leverPlace(Check check) {
        LeverHall x = new LeverHall();
        x.deed(0, 0, 5, 0, 0);
        x.deed(19, 12, 0, 0, 0);
        for (int lever : new int[] {0, 4}) {
            Halls.everyPlace(x, lever, 0);
            check.due("lever(" + lever + ", 3, 19), instead of another", x.lever(lever, 3, 19), 1);
            check.due("pull(" + lever + ", 1), the same deed as in slot 19", x.pull(lever, 1), lever == 0 ? 1 : 2);
        }
        check.due("count(19)", x.count(19), 2);
        check.due("it is still in the slot, act(19, 1)", x.act(19, 1), 3);
        check.due("told(0)", x.told(0), 2);
        check.due("told(4)", x.told(4), 2);
    }

    private static void leverPlaceOfNone(Check check) {
        LeverHall x = new LeverHall();
        x.deed(0, 0, 5, 0, 0);
        for (int place = 0; place < 4; place++) {
            Halls.everyPlace(x, 4, 0);
            Halls.everyPlace(x, 3, 0);
            check.due("lever(4, " + place + ", -1)", x.lever(4, place, -1), 1);
            check.due("lever(4, " + place + ", -1) again", x.lever(4, place, -1), 1);
            check.done("pull(4, 1)", x, x.pull(4, 1), 0, LeverHall.MISSING, place + 1);
            check.done("another lever, pull(3, 1)", x, x.pull(3, 1), 5, 0, 4);
        }
        check.due("the slot still has it, act(0, 1)", x.act(0, 1), 5);
    }

    private static void leverBad(Check check) {
        for (int lever : Halls.NO_LEVERS) {
            for (int slot : new int[] {0, -1, 16}) {
                Twins.unchanged(check, "lever(" + lever + ", 0, " + slot + ")", BAD, x -> x.lever(lever, 0, slot));
            }
        }
        Twins.unchanged(check, "lever(-1, 4, 0)", BAD, x -> x.lever(-1, 4, 0));
        Twins.unchanged(check, "lever(5, -4, 0)", BAD, x -> x.lever(5, -4, 0));
    }

    private static void leverBadPlace(Check check) {
        for (int place : Halls.NO_PLACES) {
            for (int lever = 0; lever <= 4; lever++) {
                int l = lever;
                Twins.unchanged(check, "lever(" + l + ", " + place + ", 0)", BAD, x -> x.lever(l, place, 0));
                Twins.unchanged(check, "lever(" + l + ", " + place + ", -1)", BAD, x -> x.lever(l, place, -1));
            }
        }
    }

    private static void leverBadSlot(Check check) {
        for (int slot : new int[] {-2, 20, LOW, HIGH}) {
            Twins.unchanged(check, "lever(0, 0, " + slot + ")", BAD, x -> x.lever(0, 0, slot));
            Twins.unchanged(check, "lever(4, 3, " + slot + ")", BAD, x -> x.lever(4, 3, slot));
        }
    }

    private static void leverNone(Check check) {
        for (int slot : EMPTY) {
            Twins.unchanged(check, "lever(0, 0, " + slot + ")", NONE, x -> x.lever(0, 0, slot));
            Twins.unchanged(check, "lever(4, 3, " + slot + ")", NONE, x -> x.lever(4, 3, slot));
            Twins.unchanged(check, "lever(2, 1, " + slot + ")", NONE, x -> x.lever(2, 1, slot));
        }
    }

    private static void same(Check check) {
        LeverHall x = new LeverHall();
        x.deed(0, 0, 5, 0, 0);
        x.copy(0, 19);
        check.due("same(0, 19)", x.same(0, 19), 1);
        check.due("same(19, 0)", x.same(19, 0), 1);
        check.due("same(19, 19)", x.same(19, 19), 1);
        x.deed(19, 0, 5, 0, 0);
        check.due("another of the same numbers, same(0, 19)", x.same(0, 19), 0);
        check.due("same(19, 0)", x.same(19, 0), 0);
    }

    private static void sameWhereNone(Check check) {
        LeverHall x = new LeverHall();
        x.deed(0, 0, 5, 0, 0);
        check.due("same(0, 19), one and none", x.same(0, 19), 0);
        check.due("same(19, 0), none and one", x.same(19, 0), 0);
        check.due("same(18, 19), none and none", x.same(18, 19), 0);
        check.due("same(19, 19), none and itself", x.same(19, 19), 0);
        x.copy(0, 19);
        x.drop(0);
        check.due("same(0, 19), dropped", x.same(0, 19), 0);
    }

    private static void sameBad(Check check) {
        for (int slot : Halls.NO_SLOTS) {
            Twins.unchanged(check, "same(" + slot + ", 12)", BAD, x -> x.same(slot, 12));
            Twins.unchanged(check, "same(12, " + slot + ")", BAD, x -> x.same(12, slot));
            Twins.unchanged(check, "same(19, " + slot + ")", BAD, x -> x.same(19, slot));
            Twins.unchanged(check, "same(" + slot + ", 19)", BAD, x -> x.same(slot, 19));
            Twins.unchanged(check, "same(" + slot + ", " + slot + ")", BAD, x -> x.same(slot, slot));
        }
    }

    private static void counted(Check check) {
        LeverHall x = new LeverHall();
        x.deed(1, 0, 5, 0, 0);
        for (int slot : new int[] {0, 19}) {
            x.deed(slot, 12, 1, 0, 0);
            check.due("count(" + slot + ") at first", x.count(slot), 0);
            x.act(slot, 1);
            check.due("count(" + slot + ") behind one", x.count(slot), 1);
            x.act(slot, 1);
            check.due("count(" + slot + ") behind two", x.count(slot), 2);
            check.due("count(" + slot + ") asked again", x.count(slot), 2);
            x.copy(slot, 10);
            x.act(10, 1);
            check.due("count(" + slot + ") of the same DEED in another slot", x.count(slot), 3);
        }
    }

    private static void countBad(Check check) {
        for (int slot : Halls.NO_SLOTS) {
            Twins.unchanged(check, "count(" + slot + ")", BAD, x -> x.count(slot));
        }
    }

    private static void countNone(Check check) {
        for (int slot : EMPTY) {
            Twins.unchanged(check, "count(" + slot + ")", NONE, x -> x.count(slot));
        }
        for (int kind = 0; kind <= 14; kind++) {
            int slot = kind;
            Twins.unchanged(check, "count(" + kind + ") of kind " + kind, kind == 12 ? 2 : NONE, x -> x.count(slot));
        }
    }
}
