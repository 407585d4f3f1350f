/** Compares answers with those that are due, prints the wrong ones, and ends a test with 1 if there was one. */
final class Check {
    private int wrong = 0;
    private int asked = 0;

    void due(String call, long got, long want) {
        asked++;
        if (got != want) {
            wrong++;
            System.out.println(call + " answered " + got + ", due is " + want);
        }
    }

    /** What a doing gave, why it failed and how many steps it took. */
    void done(String call, LeverHall hall, int got, int want, int failed, int steps) {
        due(call, got, want);
        due(call + " then failed()", hall.failed(), failed);
        due(call + " then told(2)", hall.told(2), steps);
    }

    void end() {
        System.out.println(asked + " answers, " + wrong + " wrong");
        System.exit(wrong == 0 ? 0 : 1);
    }
}
