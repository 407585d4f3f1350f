import java.util.ArrayDeque;
import java.util.ArrayList;
import java.util.Arrays;
import java.util.List;

/** The document told once more, with exceptions for failures and a list for what is open. */
final class Model {
    private static final class Failure extends Exception {
        private static final long serialVersionUID = 1L;
        final int why;

        Failure(int why) {
            super(null, null, false, false);
            this.why = why;
        }
    }

    private interface Doing {
        int with(int p) throws Failure;
    }

    private static final class Made {
        Doing doing;
        int kind;
        int count;
    }

    private static final class Waiting {
        final Made deed;
        final int p;

        Waiting(Made deed, int p) {
            this.deed = deed;
            this.p = p;
        }
    }

    private int[] basins;
    private int[][] gauges;
    private Made[] slots;
    private Made[][] levers;
    private ArrayDeque<Waiting> queue;
    private final List<Made> open = new ArrayList<>();
    private int made, steps, failures, failed;

    Model() {
        clear();
    }

    int clear() {
        int before = made;
        basins = new int[10];
        gauges = new int[3][0];
        slots = new Made[20];
        levers = new Made[5][4];
        queue = new ArrayDeque<>();
        made = steps = failures = failed = 0;
        return before;
    }

    private static boolean in(int n, int from, int to) {
        return from <= n && n <= to;
    }

    int fill(int basin, int v) {
        if (!in(basin, 0, 9)) {
            return 0;
        }
        int before = basins[basin];
        basins[basin] = v;
        return before;
    }

    int basin(int k) {
        return in(k, 0, 9) ? basins[k] : 0;
    }

    int gauge(int g, int n) {
        if (!in(g, 0, 2) || !in(n, 0, 6)) {
            return -1;
        }
        gauges[g] = new int[n];
        return 1;
    }

    int mark(int g, int i) {
        return in(g, 0, 2) && in(i, 0, gauges[g].length - 1) ? gauges[g][i] : 0;
    }

    /** What x, y, z have to be, by kind: b a basin, g a gauge, l a lever, s a slot, h a slot that is held, t times, - any. */
    private static final String[] NAMED = {
        "---", "b--", "b--", "bb-", "g--", "---", "b--", "hh-", "hhb", "ht-", "hh-", "h--", "h--", "l--", "s--"};

    private static int most(char named) {
        return "bglsht".indexOf(named) < 0 ? Integer.MAX_VALUE : new int[] {9, 2, 4, 19, 19, 5}["bglsht".indexOf(named)];
    }

    int deed(int slot, int kind, int x, int y, int z) {
        if (!in(slot, 0, 19) || !in(kind, 0, 14)) {
            return -1;
        }
        int[] given = {x, y, z};
        for (int i = 0; i < 3; i++) {
            char named = NAMED[kind].charAt(i);
            if (named != '-' && !in(given[i], 0, most(named))) {
                return -1;
            }
        }
        for (int i = 0; i < 3; i++) {
            if (NAMED[kind].charAt(i) == 'h' && slots[given[i]] == null) {
                return -2;
            }
        }
        Made deed = new Made();
        deed.kind = kind;
        deed.doing = kind < 7 ? plain(kind, x, y) : joined(deed, kind, x, y, z);
        slots[slot] = deed;
        return ++made;
    }

    private Doing plain(int kind, int x, int y) {
        switch (kind) {
            case 0: return p -> x;
            case 1: return p -> fill(x, p);
            case 2: return p -> basins[x] += p * y;
            case 3: return p -> {
                if (!in(p, 0, basins[x])) {
                    throw new Failure(-3);
                }
                basins[x] -= p;
                basins[y] += p;
                return basins[x];
            };
            case 4: {
                int[] gauge = gauges[x];
                return p -> {
                    if (!in(y, 0, gauge.length - 1)) {
                        throw new Failure(-4);
                    }
                    return gauge[y] += p;
                };
            }
            case 5: return p -> {
                if (x == 0) {
                    throw new Failure(-5);
                }
                return (int) ((long) p / x);
            };
            default: {
                int held = basins[x];
                return p -> p + held;
            }
        }
    }

    private Doing joined(Made self, int kind, int x, int y, int z) {
        Made a = NAMED[kind].charAt(0) == 'h' ? slots[x] : null;
        Made b = NAMED[kind].charAt(1) == 'h' ? slots[y] : null;
        switch (kind) {
            case 7: return p -> step(b, step(a, p));
            case 8: return p -> step(basins[z] > p ? b : a, p);
            case 9: return p -> row(new Made[][] {{}, {a}, {a, a}, {a, a, a}, {a, a, a, a}, {a, a, a, a, a}}[y], p);
            case 10: return p -> {
                try {
                    return step(a, p);
                } catch (Failure failure) {
                    if (failure.why <= -8) {
                        throw failure;
                    }
                }
                return step(b, p);
            };
            case 11: return p -> {
                if (queue.size() == 12) {
                    throw new Failure(-7);
                }
                queue.addLast(new Waiting(a, p));
                return queue.size();
            };
            case 12: return p -> {
                step(a, p);
                return ++self.count;
            };
            case 13: return p -> row(levers[x], p);
            default: return p -> step(slots[x], p);
        }
    }

    private int row(Made[] deeds, int p) throws Failure {
        int given = p;
        for (Made deed : deeds) {
            given = step(deed, given);
        }
        return given;
    }

    private int step(Made deed, int p) throws Failure {
        if (steps == 60) {
            throw new Failure(-8);
        }
        steps++;
        if (open.size() == 16) {
            throw new Failure(-9);
        }
        if (deed == null) {
            throw new Failure(-6);
        }
        open.add(deed);
        try {
            return deed.doing.with(p);
        } finally {
            open.remove(open.size() - 1);
        }
    }

    int copy(int from, int to) {
        if (!in(from, 0, 19) || !in(to, 0, 19)) {
            return -1;
        }
        if (slots[from] == null) {
            return -2;
        }
        slots[to] = slots[from];
        return 1;
    }

    int drop(int slot) {
        if (!in(slot, 0, 19)) {
            return -1;
        }
        if (slots[slot] == null) {
            return -2;
        }
        slots[slot] = null;
        return 1;
    }

    int lever(int lever, int place, int slot) {
        if (!in(lever, 0, 4) || !in(place, 0, 3) || !in(slot, -1, 19)) {
            return -1;
        }
        if (slot >= 0 && slots[slot] == null) {
            return -2;
        }
        levers[lever][place] = slot < 0 ? null : slots[slot];
        return 1;
    }

    int same(int a, int b) {
        if (!in(a, 0, 19) || !in(b, 0, 19)) {
            return -1;
        }
        return slots[a] == slots[b] && slots[b] != null ? 1 : 0;
    }

    int count(int slot) {
        if (!in(slot, 0, 19)) {
            return -1;
        }
        return slots[slot] == null || slots[slot].kind != 12 ? -2 : slots[slot].count;
    }

    private int refused(int why) {
        failed = why;
        steps = 0;
        return 0;
    }

    /** Gives null if it failed. */
    private Integer attempt(Doing doing, int p) {
        try {
            return doing.with(p);
        } catch (Failure failure) {
            failures++;
            failed = failure.why;
            return null;
        }
    }

    int act(int slot, int p) {
        if (!in(slot, 0, 19)) {
            return refused(-1);
        }
        if (slots[slot] == null) {
            return refused(-2);
        }
        steps = failed = 0;
        Integer given = attempt(q -> step(slots[slot], q), p);
        return given == null ? 0 : given;
    }

    int pull(int lever, int p) {
        if (!in(lever, 0, 4)) {
            return refused(-1);
        }
        steps = failed = 0;
        Integer given = attempt(q -> row(levers[lever], q), p);
        return given == null ? 0 : given;
    }

    int tick() {
        steps = failed = 0;
        int well = 0;
        for (int left = queue.size(); left > 0; left--) {
            Waiting first = queue.removeFirst();
            if (attempt(q -> step(first.deed, q), first.p) != null) {
                well++;
            }
        }
        return well;
    }

    int failed() {
        return failed;
    }

    int told(int what) {
        switch (what) {
            case 0: return made;
            case 1: return queue.size();
            case 2: return steps;
            case 3: return failures;
            case 4: return (int) Arrays.stream(slots).filter(deed -> deed != null).count();
            default: return -1;
        }
    }
}
