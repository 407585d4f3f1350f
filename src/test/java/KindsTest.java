/** What a deed of each kind gives and changes, and by what it fails (Terms; promises 6 and 12). */
public final class KindsTest {
    private static final int LOW = Integer.MIN_VALUE, HIGH = Integer.MAX_VALUE;

    public static void main(String[] args) {
        Check check = new Check();
        constantSetAdd(check, new LeverHall());
        draw(check, new LeverHall());
        mark(check, new LeverHall());
        partAndSnap(check, new LeverHall());
        then(check, new LeverHall());
        when(check, new LeverHall());
        times(check, new LeverHall());
        tryOther(check, new LeverHall());
        tryIsNoHelp(check, new LeverHall());
        later(check, new LeverHall());
        pull(check, new LeverHall());
        look(check, new LeverHall());
        check.end();
    }

    private static void constantSetAdd(Check check, LeverHall x) {
        x.deed(0, 0, LOW, 0, 0);
        check.done("CONSTANT", x, x.act(0, 5), LOW, 0, 1);
        x.fill(9, 4);
        x.deed(1, 1, 9, 0, 0);
        check.done("SET", x, x.act(1, -8), 4, 0, 1);
        check.due("basin(9)", x.basin(9), -8);
        x.deed(2, 2, 9, 3, 0);
        check.done("ADD", x, x.act(2, 5), 7, 0, 1);
        check.done("ADD below 0", x, x.act(2, -5), -8, 0, 1);
        check.due("basin(9)", x.basin(9), -8);
        x.fill(9, HIGH);
        check.done("ADD wraps", x, x.act(2, 1), HIGH + 3, 0, 1);
        x.fill(9, 1);
        check.done("ADD's product wraps", x, x.act(2, HIGH), HIGH * 3 + 1, 0, 1);
        x.deed(2, 2, 9, LOW, 0);
        check.done("ADD of y LOW", x, x.act(2, -1), HIGH * 3 + 1 + LOW, 0, 1);
    }

    private static void draw(Check check, LeverHall x) {
        x.deed(0, 3, 1, 8, 0);
        check.done("DRAW 0 of 0", x, x.act(0, 0), 0, 0, 1);
        check.done("DRAW 1 of 0", x, x.act(0, 1), 0, LeverHall.SHORT, 1);
        x.fill(1, 10);
        check.done("DRAW 11 of 10", x, x.act(0, 11), 0, LeverHall.SHORT, 1);
        check.done("DRAW below 0", x, x.act(0, -1), 0, LeverHall.SHORT, 1);
        check.done("DRAW LOW", x, x.act(0, LOW), 0, LeverHall.SHORT, 1);
        check.due("nothing went: x", x.basin(1), 10);
        check.due("nothing went: y", x.basin(8), 0);
        check.done("DRAW 4 of 10", x, x.act(0, 4), 6, 0, 1);
        check.due("basin(8)", x.basin(8), 4);
        check.done("DRAW all", x, x.act(0, 6), 0, 0, 1);
        check.due("basin(8)", x.basin(8), 10);
        x.fill(1, -5);
        check.done("DRAW 0 of less", x, x.act(0, 0), 0, LeverHall.SHORT, 1);
        x.fill(1, 2);
        x.fill(8, HIGH);
        check.done("DRAW into what wraps", x, x.act(0, 2), 0, 0, 1);
        check.due("basin(8)", x.basin(8), HIGH + 2);
        x.fill(3, 7);
        x.deed(0, 3, 3, 3, 0);
        check.done("DRAW from a basin to itself", x, x.act(0, 7), 7, 0, 1);
        check.done("DRAW too much to itself", x, x.act(0, 8), 0, LeverHall.SHORT, 1);
        check.due("basin(3)", x.basin(3), 7);
    }

    private static void mark(Check check, LeverHall x) {
        x.deed(0, 4, 0, 0, 0);
        x.gauge(0, 6);
        check.done("MARK of the gauge of no places", x, x.act(0, 1), 0, LeverHall.INDEX, 1);
        x.deed(1, 4, 0, 5, 0);
        x.deed(2, 4, 0, 5, 0);
        check.done("MARK", x, x.act(1, 7), 7, 0, 1);
        check.done("MARK of the same gauge", x, x.act(2, -9), -2, 0, 1);
        check.due("mark(0, 5)", x.mark(0, 5), -2);
        check.due("mark(0, 4)", x.mark(0, 4), 0);
        check.due("mark(1, 5)", x.mark(1, 5), 0);
        check.done("MARK wraps", x, x.act(2, LOW), HIGH - 1, 0, 1);
        for (int y : new int[] {-1, 6, LOW, HIGH}) {
            x.deed(3, 4, 0, y, 0);
            check.done("MARK of place " + y, x, x.act(3, 1), 0, LeverHall.INDEX, 1);
        }
    }

    private static void partAndSnap(Check check, LeverHall x) {
        x.deed(0, 5, 3, 0, 0);
        check.done("PART 8 / 3", x, x.act(0, 8), 2, 0, 1);
        check.done("PART -8 / 3", x, x.act(0, -8), -2, 0, 1);
        x.deed(0, 5, -3, 0, 0);
        check.done("PART 8 / -3", x, x.act(0, 8), -2, 0, 1);
        x.deed(0, 5, -1, 0, 0);
        check.done("PART LOW / -1", x, x.act(0, LOW), LOW, 0, 1);
        x.deed(0, 5, 0, 0, 0);
        check.done("PART by 0", x, x.act(0, 0), 0, LeverHall.ZERO, 1);
        x.fill(4, 30);
        x.deed(1, 6, 4, 0, 0);
        x.fill(4, 99);
        check.done("SNAP", x, x.act(1, 5), 35, 0, 1);
        check.done("SNAP wraps", x, x.act(1, HIGH), HIGH + 30, 0, 1);
        check.due("SNAP changes nothing", x.basin(4), 99);
    }

    private static void then(Check check, LeverHall x) {
        x.deed(0, 2, 0, 1, 0);
        x.deed(1, 5, 0, 0, 0);
        x.deed(2, 6, 0, 0, 0);
        x.fill(0, 100);
        x.deed(3, 7, 0, 0, 0);
        check.done("THEN", x, x.act(3, 1), 202, 0, 3);
        x.deed(3, 7, 0, 1, 0);
        check.done("THEN whose second fails", x, x.act(3, 5), 0, LeverHall.ZERO, 3);
        check.due("the first's change stays", x.basin(0), 207);
        x.deed(3, 7, 1, 0, 0);
        check.done("THEN whose first fails", x, x.act(3, 5), 0, LeverHall.ZERO, 2);
        check.due("the second is not done", x.basin(0), 207);
        x.deed(3, 7, 2, 0, 0);
        x.deed(2, 0, 50, 0, 0);
        x.drop(0);
        check.done("THEN holds its deeds", x, x.act(3, 5), 212, 0, 3);
    }

    private static void when(Check check, LeverHall x) {
        x.deed(0, 2, 0, 1, 0);
        x.deed(1, 2, 1, 1, 0);
        x.fill(9, 10);
        x.deed(2, 8, 0, 1, 9);
        check.done("WHEN it holds more", x, x.act(2, 9), 9, 0, 2);
        check.due("y's", x.basin(1), 9);
        check.due("not x's", x.basin(0), 0);
        check.done("WHEN it holds as much", x, x.act(2, 10), 10, 0, 2);
        check.due("x's", x.basin(0), 10);
        check.done("WHEN it holds less", x, x.act(2, 11), 21, 0, 2);
        x.fill(9, LOW);
        check.done("WHEN it holds LOW", x, x.act(2, HIGH), HIGH + 21, 0, 2);
        x.fill(9, HIGH);
        check.done("WHEN it holds HIGH", x, x.act(2, LOW), LOW + 9, 0, 2);
        x.deed(3, 5, 0, 0, 0);
        x.deed(2, 8, 3, 0, 9);
        check.done("WHEN x's fails", x, x.act(2, HIGH), 0, LeverHall.ZERO, 2);
        x.drop(0);
        check.done("WHEN does one alone", x, x.act(2, 0), HIGH + 21, 0, 2);
    }

    private static void times(Check check, LeverHall x) {
        x.deed(0, 2, 0, 2, 0);
        x.deed(1, 5, 0, 0, 0);
        x.deed(2, 9, 1, 0, 0);
        check.done("TIMES 0", x, x.act(2, -6), -6, 0, 1);
        int[] holds = {0, 2, 6, 18, 54, 162};
        for (int y = 1; y <= 5; y++) {
            x.fill(0, 0);
            x.deed(2, 9, 0, y, 0);
            check.done("TIMES " + y, x, x.act(2, 1), holds[y], 0, y + 1);
            check.due("basin(0)", x.basin(0), holds[y]);
        }
        x.fill(0, 3);
        x.deed(3, 3, 0, 1, 0);
        x.deed(4, 0, 2, 0, 0);
        x.deed(5, 7, 3, 4, 0);
        x.deed(2, 9, 5, 5, 0);
        check.done("TIMES until one fails", x, x.act(2, 2), 0, LeverHall.SHORT, 6);
        check.due("basin(0)", x.basin(0), 1);
        check.due("basin(1)", x.basin(1), 2);
    }

    private static void tryOther(Check check, LeverHall x) {
        x.deed(0, 2, 0, 1, 0);
        x.deed(1, 5, 0, 0, 0);
        x.deed(2, 10, 0, 1, 0);
        check.done("TRY what does well", x, x.act(2, 5), 5, 0, 2);
        x.deed(2, 10, 1, 0, 0);
        check.done("TRY the other, with p", x, x.act(2, 6), 11, 0, 3);
        check.due("what TRY took up is no failure", x.told(3), 0);
        x.deed(3, 7, 0, 1, 0);
        x.deed(2, 10, 3, 0, 0);
        check.done("TRY: what was changed stays", x, x.act(2, 1), 13, 0, 5);
        x.deed(4, 3, 5, 5, 0);
        x.deed(2, 10, 1, 4, 0);
        check.done("TRY: the other fails", x, x.act(2, 1), 0, LeverHall.SHORT, 3);
        check.due("that is one failure", x.told(3), 1);
        x.deed(5, 14, 19, 0, 0);
        x.deed(2, 10, 5, 0, 0);
        check.done("TRY: MISSING", x, x.act(2, 1), 14, 0, 4);
        x.deed(5, 13, 4, 0, 0);
        x.deed(2, 10, 5, 0, 0);
        check.done("TRY: MISSING at a place", x, x.act(2, 1), 15, 0, 4);
        x.deed(5, 4, 0, 0, 0);
        x.deed(2, 10, 5, 0, 0);
        check.done("TRY: INDEX", x, x.act(2, 1), 16, 0, 3);
        x.deed(6, 7, 2, 0, 0);
        check.done("what goes on behind a TRY", x, x.act(6, 1), 34, 0, 5);
        x.deed(7, 10, 2, 1, 0);
        check.done("a TRY in a TRY", x, x.act(7, 1), 35, 0, 4);
    }

    private static void tryIsNoHelp(Check check, LeverHall x) {
        x.deed(0, 2, 0, 1, 0);
        x.deed(1, 14, 1, 0, 0);
        x.deed(2, 10, 1, 0, 0);
        check.done("TRY: DEEP", x, x.act(2, 1), 0, LeverHall.DEEP, 17);
        x.deed(3, 9, 0, 5, 0);
        x.deed(3, 9, 3, 5, 0);
        x.deed(3, 9, 3, 5, 0);
        x.deed(2, 10, 3, 0, 0);
        check.done("TRY: TIRED", x, x.act(2, 0), 0, LeverHall.TIRED, 60);
        check.due("the other is not done", x.basin(0), 0);
    }

    private static void later(Check check, LeverHall x) {
        x.deed(0, 2, 0, 1, 0);
        x.deed(1, 11, 0, 0, 0);
        x.deed(0, 5, 0, 0, 0);
        for (int n = 1; n <= 12; n++) {
            check.done("LATER " + n, x, x.act(1, 1 << n), n, 0, 1);
            check.due("told(1)", x.told(1), n);
        }
        check.due("nothing is done yet", x.basin(0), 0);
        check.done("LATER 13", x, x.act(1, 1), 0, LeverHall.FULL, 1);
        x.deed(2, 0, 77, 0, 0);
        x.deed(3, 10, 1, 2, 0);
        check.done("TRY: FULL", x, x.act(3, 1), 77, 0, 3);
        check.due("told(1)", x.told(1), 12);
        check.done("tick()", x, x.tick(), 12, 0, 12);
        check.due("each with its own p", x.basin(0), (1 << 13) - 2);
    }

    private static void pull(Check check, LeverHall x) {
        x.deed(0, 13, 4, 0, 0);
        check.done("PULL of no places", x, x.act(0, 1), 0, LeverHall.MISSING, 2);
        x.fill(0, 10);
        x.deed(1, 6, 0, 0, 0);
        x.deed(2, 5, 2, 0, 0);
        x.deed(3, 1, 5, 0, 0);
        x.lever(4, 0, 1);
        x.lever(4, 1, 2);
        x.lever(4, 2, 3);
        x.lever(4, 3, 1);
        x.fill(5, 70);
        check.done("PULL, one behind the other", x, x.act(0, 8), 80, 0, 5);
        check.due("basin(5)", x.basin(5), 9);
        x.lever(4, 1, -1);
        check.done("PULL by places as they are then", x, x.act(0, 8), 0, LeverHall.MISSING, 3);
        check.due("nothing behind it is done", x.basin(5), 9);
        x.deed(4, 5, 0, 0, 0);
        x.lever(4, 1, 4);
        check.done("PULL whose place fails", x, x.act(0, 8), 0, LeverHall.ZERO, 3);
    }

    private static void look(Check check, LeverHall x) {
        x.deed(0, 14, 19, 0, 0);
        check.done("LOOK at none", x, x.act(0, 1), 0, LeverHall.MISSING, 2);
        x.deed(19, 0, 3, 0, 0);
        check.done("LOOK", x, x.act(0, 1), 3, 0, 2);
        x.deed(19, 2, 0, 1, 0);
        check.done("LOOK at what is there then", x, x.act(0, 5), 5, 0, 2);
        x.drop(19);
        check.done("LOOK at none again", x, x.act(0, 5), 0, LeverHall.MISSING, 2);
    }
}
