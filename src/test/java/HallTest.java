/** Promises 1 to 5: a new object, fill, basin, gauge, mark. */
public final class HallTest {
    private static final int[] NO_BASINS = {-1, 10, Integer.MIN_VALUE, Integer.MAX_VALUE};
    private static final int[] NO_GAUGES = {-1, 3, Integer.MIN_VALUE, Integer.MAX_VALUE};
    private static final int[] NO_SIZES = {-1, 7, Integer.MIN_VALUE, Integer.MAX_VALUE};

    public static void main(String[] args) {
        Check check = new Check();
        newObject(check, new LeverHall());
        fillAndBasin(check, new LeverHall());
        gaugeRefused(check, new LeverHall());
        gaugeIsNew(check, new LeverHall());
        markOfEverySize(check, new LeverHall());
        check.end();
    }

    static void newObject(Check check, LeverHall x) {
        for (int k = -1; k <= 10; k++) {
            check.due("new: basin(" + k + ")", x.basin(k), 0);
        }
        for (int g = -1; g <= 3; g++) {
            for (int i = -1; i <= 6; i++) {
                check.due("new: mark(" + g + ", " + i + ")", x.mark(g, i), 0);
            }
        }
        for (int what = 0; what <= 4; what++) {
            check.due("new: told(" + what + ")", x.told(what), 0);
        }
        check.due("new: failed()", x.failed(), 0);
        for (int slot = 0; slot < 20; slot++) {
            check.due("new: drop(" + slot + ")", x.drop(slot), LeverHall.NONE);
        }
        for (int lever = 0; lever < 5; lever++) {
            check.done("new: pull(" + lever + ", 3)", x, x.pull(lever, 3), 0, LeverHall.MISSING, 1);
        }
        // a gauge of no places is one that a MARK can be made of
        for (int g = 0; g < 3; g++) {
            check.due("new: deed MARK " + g, x.deed(0, 4, g, 0, 0), g + 1);
            check.done("new: MARK " + g, x, x.act(0, 5), 0, LeverHall.INDEX, 1);
        }
    }

    private static void fillAndBasin(Check check, LeverHall x) {
        for (int k = 0; k < 10; k++) {
            check.due("fill(" + k + ", ..)", x.fill(k, 100 + k), 0);
        }
        for (int k = 0; k < 10; k++) {
            check.due("basin(" + k + ")", x.basin(k), 100 + k);
            check.due("fill(" + k + ") again", x.fill(k, Integer.MIN_VALUE + k), 100 + k);
            check.due("basin(" + k + ") again", x.basin(k), Integer.MIN_VALUE + k);
        }
        for (int k : NO_BASINS) {
            check.due("fill(" + k + ", 7)", x.fill(k, 7), 0);
            check.due("basin(" + k + ")", x.basin(k), 0);
        }
        for (int k = 0; k < 10; k++) {
            check.due("basin(" + k + ") behind wrong fills", x.basin(k), Integer.MIN_VALUE + k);
        }
    }

    private static void gaugeRefused(Check check, LeverHall x) {
        x.gauge(0, 2);
        x.deed(0, 4, 0, 1, 0);
        x.act(0, 9);
        for (int g : NO_GAUGES) {
            check.due("gauge(" + g + ", 1)", x.gauge(g, 1), LeverHall.BAD);
            check.due("mark(" + g + ", 0)", x.mark(g, 0), 0);
        }
        for (int n : NO_SIZES) {
            check.due("gauge(0, " + n + ")", x.gauge(0, n), LeverHall.BAD);
        }
        check.due("a refused gauge() changes nothing", x.mark(0, 1), 9);
    }

    private static void gaugeIsNew(Check check, LeverHall x) {
        check.due("gauge(2, 3)", x.gauge(2, 3), 1);
        x.deed(0, 4, 2, 0, 0);
        x.act(0, 4);
        check.due("mark(2, 0)", x.mark(2, 0), 4);
        check.due("gauge(2, 3) again", x.gauge(2, 3), 1);
        check.due("mark(2, 0) of the new one", x.mark(2, 0), 0);
        check.due("the old one goes on", x.act(0, 5), 9);
        check.due("mark(2, 0) is not of the old one", x.mark(2, 0), 0);
        x.deed(1, 4, 2, 0, 0);
        check.due("the new one begins at 0", x.act(1, 6), 6);
        check.due("gauge(2, 0)", x.gauge(2, 0), 1);
        check.due("mark(2, 0) of none", x.mark(2, 0), 0);
        check.due("mark(1, 0) of another", x.mark(1, 0), 0);
    }

    private static void markOfEverySize(Check check, LeverHall x) {
        for (int n = 0; n <= 6; n++) {
            check.due("gauge(1, " + n + ")", x.gauge(1, n), 1);
            for (int i = -1; i <= 6; i++) {
                boolean there = i >= 0 && i < n;
                x.deed(0, 4, 1, i, 0);
                check.done("MARK " + i + " of " + n, x, x.act(0, i + 10),
                        there ? i + 10 : 0, there ? 0 : LeverHall.INDEX, 1);
                check.due("mark(1, " + i + ") of " + n, x.mark(1, i), there ? i + 10 : 0);
            }
            check.due("mark(1, low)", x.mark(1, Integer.MIN_VALUE), 0);
            check.due("mark(1, high)", x.mark(1, Integer.MAX_VALUE), 0);
        }
    }
}
