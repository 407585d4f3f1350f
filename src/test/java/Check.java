import java.util.function.Consumer;

/** Compares answers with those that are due, prints the wrong ones, and ends a test with 1 if there was one. */
final class Check {
    private int wrong = 0;
    private int asked = 0;
    private int sentences = 0;
    private String sentence = "";

    /** A test of one sentence of the document: its wrong answers are printed with it, and it must ask something. */
    void sentence(String words, Consumer<Check> test) {
        int before = asked;
        sentence = "[" + words + "] ";
        try {
            test.accept(this);
        } catch (RuntimeException | StackOverflowError thrown) {
            // no call may ever throw; the other sentences are still to be tested
            wrong++;
            System.out.println(sentence + "a call threw " + thrown);
        }
        due("questions asked", asked > before ? 1 : 0, 1);
        sentence = "";
        sentences++;
    }

    void due(String call, long got, long want) {
        asked++;
        if (got != want) {
            wrong++;
            System.out.println(sentence + call + " answered " + got + ", due is " + want);
        }
    }

    /** What a doing gave, why it failed and how many steps it took. */
    void done(String call, LeverHall hall, int got, int want, int failed, int steps) {
        due(call, got, want);
        due(call + " then failed()", hall.failed(), failed);
        due(call + " then told(2)", hall.told(2), steps);
    }

    void end() {
        System.out.println((sentences > 0 ? sentences + " sentences, " : "") + asked + " answers, " + wrong + " wrong");
        System.exit(wrong == 0 ? 0 : 1);
    }
}
