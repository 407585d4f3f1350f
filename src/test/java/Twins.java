import java.util.LinkedHashMap;
import java.util.Map;
import java.util.function.ToIntFunction;

/** Two halls with the same calls behind them: a call that changes nothing must leave one like the other. */
final class Twins {
    private Twins() {
    }

    /** The call answers want, and all that can be asked and done behind it is as if it had not been made. */
    static void unchanged(Check check, String call, int want, ToIntFunction<LeverHall> made) {
        LeverHall x = Halls.furnished();
        check.due(call, made.applyAsInt(x), want);
        compare(check, call, ask(x), ask(Halls.furnished()));
        compare(check, call, doAll(x), doAll(Halls.furnished()));
    }

    /** An act() or pull() that is refused: failed() and told(2) are of the latest one, all else is unchanged. */
    static void refusedDoing(Check check, String call, int why, ToIntFunction<LeverHall> made) {
        LeverHall x = Halls.furnished();
        check.done(call, x, made.applyAsInt(x), 0, why, 0);
        Map<String, Integer> want = ask(Halls.furnished());
        want.put("failed()", why);
        want.put("told(2)", 0);
        compare(check, call, ask(x), want);
        compare(check, call, doAll(x), doAll(Halls.furnished()));
    }

    static void compare(Check check, String call, Map<String, Integer> got, Map<String, Integer> want) {
        for (Map.Entry<String, Integer> entry : want.entrySet()) {
            check.due(call + ", then " + entry.getKey(), got.get(entry.getKey()), entry.getValue());
        }
    }

    /** What the calls that only ask answer. */
    static Map<String, Integer> ask(LeverHall x) {
        Map<String, Integer> answers = new LinkedHashMap<>();
        answers.put("failed()", x.failed());
        for (int what = 0; what < 5; what++) {
            answers.put("told(" + what + ")", x.told(what));
        }
        for (int k = 0; k < 10; k++) {
            answers.put("basin(" + k + ")", x.basin(k));
        }
        for (int g = 0; g < 3; g++) {
            for (int i = 0; i < 6; i++) {
                answers.put("mark(" + g + ", " + i + ")", x.mark(g, i));
            }
        }
        for (int slot = 0; slot < 20; slot++) {
            answers.put("count(" + slot + ")", x.count(slot));
            answers.put("same(12, " + slot + ")", x.same(12, slot));
        }
        return answers;
    }

    /** What pulling all levers, doing all slots' deeds and those that wait gives, and what is so behind it. */
    static Map<String, Integer> doAll(LeverHall x) {
        Map<String, Integer> answers = new LinkedHashMap<>();
        for (int lever = 0; lever < 5; lever++) {
            put(answers, x, "pull(" + lever + ", 2)", x.pull(lever, 2));
        }
        for (int slot = 0; slot < 20; slot++) {
            put(answers, x, "act(" + slot + ", 1)", x.act(slot, 1));
        }
        put(answers, x, "tick()", x.tick());
        for (Map.Entry<String, Integer> entry : ask(x).entrySet()) {
            answers.put("all done, " + entry.getKey(), entry.getValue());
        }
        return answers;
    }

    private static void put(Map<String, Integer> answers, LeverHall x, String call, int given) {
        answers.put(call, given);
        answers.put(call + " then failed()", x.failed());
        answers.put(call + " then told(2)", x.told(2));
    }
}
