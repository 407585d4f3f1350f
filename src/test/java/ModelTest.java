import java.util.Random;

/** Runs of up to 512 calls of all sorts, right and wrong, the same each time: the hall answers as the model does. */
public final class ModelTest {
    private static final int RUNS = 4000, CALLS = 440;
    private static final int[] EDGES = {
        Integer.MIN_VALUE, Integer.MIN_VALUE + 1, -2, -1, 0, 1, 2, 3, 4, 5, 6, 7, 9, 10, 12, 14, 15, 19, 20, 21,
        Integer.MAX_VALUE - 1, Integer.MAX_VALUE};

    private final Random random;
    private final Check check;
    private final LeverHall hall = new LeverHall();
    private final Model model = new Model();
    /** How many slots this run mostly uses: few make deeds of deeds, many make runs with gaps. */
    private final int slots;
    private final int[] seen;

    private ModelTest(int seed, Check check, int[] seen) {
        this.random = new Random(seed);
        this.check = check;
        this.seen = seen;
        this.slots = 3 + random.nextInt(18);
    }

    public static void main(String[] args) {
        Check check = new Check();
        int[] seen = new int[10];
        for (int run = 0; run < RUNS; run++) {
            new ModelTest(run, check, seen).run();
        }
        for (int why = 1; why <= 9; why++) {
            check.due("some run fails by " + -why, seen[why] > 50 ? 1 : 0, 1);
        }
        check.end();
    }

    private void run() {
        for (int call = 0; call < CALLS; call++) {
            call();
        }
        for (int k = 0; k < 10; k++) {
            check.due("basin(" + k + ")", hall.basin(k), model.basin(k));
        }
        for (int g = 0; g < 3; g++) {
            for (int i = 0; i < 6; i++) {
                check.due("mark(" + g + ", " + i + ")", hall.mark(g, i), model.mark(g, i));
            }
        }
        for (int slot = 0; slot < 20; slot++) {
            check.due("count(" + slot + ")", hall.count(slot), model.count(slot));
        }
        tell();
    }

    private void tell() {
        check.due("failed()", hall.failed(), model.failed());
        for (int what = 0; what < 5; what++) {
            check.due("told(" + what + ")", hall.told(what), model.told(what));
        }
    }

    /** A number below n, but now and then one of the edges. */
    private int below(int n) {
        return random.nextInt(25) == 0 ? EDGES[random.nextInt(EDGES.length)] : random.nextInt(n);
    }

    private int slot() {
        return below(slots);
    }

    private int power() {
        int sort = random.nextInt(10);
        return sort == 0 ? random.nextInt() : sort == 1 ? EDGES[random.nextInt(EDGES.length)] : random.nextInt(30) - 4;
    }

    private void call() {
        int sort = random.nextInt(100);
        if (sort < 30) {
            make();
        } else if (sort < 60) {
            act();
        } else if (sort < 90) {
            change(sort);
        } else {
            ask();
        }
    }

    private void make() {
        int kind = below(15);
        int a = slot();
        int x = kind == 0 || kind == 5 ? power() : kind == 4 ? below(3) : kind == 13 ? below(5) : kind < 7 ? below(10) : slot();
        int y = kind == 2 ? power() : kind == 3 ? below(10) : kind == 4 || kind == 9 ? below(6) : slot();
        int z = below(10);
        check.due("deed(" + a + ", " + kind + ", " + x + ", " + y + ", " + z + ")",
                hall.deed(a, kind, x, y, z), model.deed(a, kind, x, y, z));
    }

    private void act() {
        int sort = random.nextInt(10);
        int a = sort < 7 ? slot() : below(5);
        int p = power();
        if (sort < 7) {
            check.due("act(" + a + ", " + p + ")", hall.act(a, p), model.act(a, p));
        } else if (sort < 9) {
            check.due("pull(" + a + ", " + p + ")", hall.pull(a, p), model.pull(a, p));
        } else {
            check.due("tick()", hall.tick(), model.tick());
        }
        seen[-model.failed()]++;
    }

    private void change(int sort) {
        int a = sort < 77 ? below(5) : slot();
        int b = sort < 77 ? below(4) : slot();
        int c = slot();
        if (sort < 77) {
            int from = random.nextInt(20) == 0 ? -1 : c;
            check.due("lever(" + a + ", " + b + ", " + from + ")", hall.lever(a, b, from), model.lever(a, b, from));
        } else if (sort < 80) {
            check.due("copy(" + a + ", " + b + ")", hall.copy(a, b), model.copy(a, b));
        } else if (sort < 81) {
            check.due("drop(" + a + ")", hall.drop(a), model.drop(a));
        } else if (sort < 84) {
            int g = below(3);
            int n = below(7);
            check.due("gauge(" + g + ", " + n + ")", hall.gauge(g, n), model.gauge(g, n));
        } else if (sort < 89) {
            int k = below(10);
            int v = power();
            check.due("fill(" + k + ", " + v + ")", hall.fill(k, v), model.fill(k, v));
        } else if (random.nextInt(10) == 0) {
            check.due("clear()", hall.clear(), model.clear());
        }
    }

    private void ask() {
        int a = slot();
        int b = slot();
        switch (random.nextInt(6)) {
            case 0:
                check.due("basin(" + a + ")", hall.basin(a), model.basin(a));
                break;
            case 1:
                check.due("mark(" + a % 4 + ", " + b + ")", hall.mark(a % 4, b), model.mark(a % 4, b));
                break;
            case 2:
                check.due("same(" + a + ", " + b + ")", hall.same(a, b), model.same(a, b));
                break;
            case 3:
                check.due("count(" + a + ")", hall.count(a), model.count(a));
                break;
            case 4:
                check.due("failed()", hall.failed(), model.failed());
                break;
            default:
                int what = below(6);
                check.due("told(" + what + ")", hall.told(what), model.told(what));
        }
    }
}
