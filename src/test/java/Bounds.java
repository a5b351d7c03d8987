import java.util.List;
import java.util.function.Function;
import java.util.function.Supplier;

/** What the tests of boundary cases share. */
abstract class Bounds {
    static final int LEAST = Integer.MIN_VALUE;
    static final int GREATEST = Integer.MAX_VALUE;
    static final String NO_INDEX = "throws.IndexOutOfBoundsException";
    static final String NO_ARGUMENT = "throws.IllegalArgumentException";

    final Check check;

    Bounds(Check check) {
        this.check = check;
    }

    abstract void run();

    /** The answers that follow are of this sentence. */
    void told(String section, String words) {
        check.sentence(section, words);
    }

    void due(String call, Object due, Check.Call made) {
        check.due(call, due, made);
    }

    FlatPlan loaded(String text) {
        return check.loaded(text);
    }

    /** A text without errors, and the number of its statements. */
    void good(String text, int statements) {
        FlatPlan plan = new FlatPlan();
        Check.append(plan, text);
        due("load of [" + text + "]", statements, () -> plan.load());
        due("errorCode of [" + text + "]", 0, () -> plan.errorCode());
        due("errorPosition of [" + text + "]", -1, () -> plan.errorPosition());
    }

    void bad(String text, int code, int position) {
        FlatPlan plan = new FlatPlan();
        Check.append(plan, text);
        due("load of [" + text + "]", -3, () -> plan.load());
        due("errorCode of [" + text + "]", code, () -> plan.errorCode());
        due("errorPosition of [" + text + "]", position, () -> plan.errorPosition());
    }

    /** A call on a plan made for it that is refused: its answer, and that it changes nothing. */
    void refused(Supplier<FlatPlan> made, String call, Object due, Function<FlatPlan, Object> refusal) {
        FlatPlan plan = made.get();
        List<Object> before = Snapshot.of(plan);
        due(call, due, () -> refusal.apply(plan));
        check.same("the plan after " + call, Snapshot.of(plan), before);
    }

    /** A call on a plan made for it that is a change: its answer, and that undo() takes it back whole. */
    void changed(Supplier<FlatPlan> made, String call, Object due, Function<FlatPlan, Object> change) {
        FlatPlan plan = made.get();
        List<Object> before = Snapshot.of(plan);
        int count = plan.undoCount();
        due(call, due, () -> change.apply(plan));
        due("undoCount() after " + call, Math.min(count + 1, 20), () -> plan.undoCount());
        due("undo() of " + call, true, () -> plan.undo());
        check.same("the plan after undo() of " + call, Snapshot.of(plan), before);
    }

    /** The answers for k = 0, 1, 2 and so on. */
    void inOrder(String call, int[] due, Function<Integer, Object> asked) {
        for (int k = 0; k < due.length; k++) {
            int one = k;
            due(call + " with " + k, due[k], () -> asked.apply(one));
        }
    }

    /** The reasons of an ad on page 1, 2 and so on. */
    void reasons(FlatPlan plan, int ad, int... due) {
        inOrder("reason(" + ad + ", 1 +)", due, k -> plan.reason(ad, k + 1));
    }

    void storyReasons(FlatPlan plan, int story, int... due) {
        inOrder("storyReason(" + story + ", 1 +)", due, k -> plan.storyReason(story, k + 1));
    }
}
