import java.util.ArrayList;
import java.util.List;

/** A plan as large as can be: every call on all of it, and on numbers just beyond it. */
public final class LimitsTest {
    private static final Check check = new Check("LimitsTest");

    public static void main(String[] args) {
        fullPlan();
        everyCallOnce(largest(), "full");
        everyCallOnce(new FlatPlan(), "new");
        everyCallOnce(smallerAfterLarge(), "smaller");
        check.end();
    }

    private static FlatPlan largest() {
        StringBuilder text = new StringBuilder("plan 4 16;");
        for (int form = 0; form < 8; form++) {
            text.append("color ").append(form).append(";close ").append(form).append(" 500;");
        }
        text.append("ad 4 1 1 0 1 900;".repeat(39)).append("ad 1 9 1 0 7 900;");
        text.append("story 1 1 0 900;".repeat(10)).append("standby 4;".repeat(8));
        FlatPlan plan = check.loaded(text.toString());
        plan.lay(9, 64);
        return plan;
    }

    /** What a larger plan leaves behind must not be seen. */
    private static FlatPlan smallerAfterLarge() {
        FlatPlan plan = largest();
        plan.placeAds();
        plan.layStories();
        for (int standby = 0; standby < 8; standby++) {
            plan.use(standby, 62);
        }
        Check.append(plan, "plan 1 4;ad 1 1 0 0 1 0;");
        check.due("load()", 1, () -> plan.load());
        check.due("count(7)", 0, () -> plan.count(7));
        check.due("revenue()", 0, () -> plan.revenue());
        check.due("nearRivals()", 0, () -> plan.nearRivals());
        check.due("hasColor", 0, () -> plan.form(0, 7));
        for (int page = 1; page <= 4; page++) {
            int one = page;
            check.due("page(" + page + ", 3)", 4, () -> plan.page(one, 3));
            check.due("page(" + page + ", 4)", 0, () -> plan.page(one, 4));
            check.due("page(" + page + ", 6)", 0, () -> plan.page(one, 6));
        }
        return plan;
    }

    private static void fullPlan() {
        FlatPlan plan = largest();
        check.due("placeAds()", 32, () -> plan.placeAds());
        check.due("page(1, 4)", 1, () -> plan.page(1, 4));
        check.due("layStories()", 9, () -> plan.layStories());
        check.due("ad(39, 6)", 1, () -> plan.ad(39, 6));
        check.due("spreadsOf(1)", 31, () -> plan.spreadsOf(1));
        check.due("story(9, 4)", 64, () -> plan.story(9, 4));
        check.due("lateItem(41)", 109, () -> plan.lateItem(41));
        check.due("endangered()", plan.revenue(), () -> plan.endangered());
        check.due("exchange(1, 2)", 0, () -> plan.exchange(1, 2));
        check.due("exchange(1, 21)", 6, () -> plan.exchange(1, 21));
        check.due("clear(1)", 1, () -> plan.clear(1));
        check.due("use(7, 1)", 0, () -> plan.use(7, 1));
        check.due("clear(1) of a standby", 1, () -> plan.clear(1));
        for (int i = 0; i < 4; i++) {
            plan.undo();
        }
        check.due("pass(500)", 8, () -> plan.pass(500));
        check.due("count(7)", 0, () -> plan.count(7));
        check.due("count(8)", 0, () -> plan.count(8));
        check.due("count(9)", 8, () -> plan.count(9));
    }

    /** The exceptions that a call of the face may throw. */
    private static final List<String> TOLD = List.of("throws.IndexOutOfBoundsException",
            "throws.IllegalArgumentException", "throws.ArithmeticException");

    private static void everyCallOnce(FlatPlan plan, String name) {
        int[] numbers = {Integer.MIN_VALUE, -1, 0, 1, 2, 3, 4, 5, 7, 8, 9, 10, 11, 15, 16, 17, 31, 32, 33, 39, 40, 41, 49, 50,
            51, 63, 64, 65, 66, Integer.MAX_VALUE};
        for (int a : numbers) {
            for (int b : numbers) {
                tell(name, a, b, List.of(() -> plan.ad(a, b), () -> plan.story(a, b), () -> plan.standby(a, b),
                        () -> plan.page(a, b), () -> plan.adOn(a, b), () -> plan.form(a, b), () -> plan.pageOf(a, b),
                        () -> plan.reason(a, b), () -> plan.storyReason(a, b), () -> plan.put(a, b), () -> plan.lay(a, b),
                        () -> plan.use(a, b), () -> plan.exchange(a, b), () -> plan.firstPage(a, b),
                        () -> plan.eviction(a, b), () -> plan.groupOn(a, b), () -> plan.setPrice(a, b),
                        () -> plan.setAd(a, true, b), () -> plan.setClosing(a, b), () -> plan.addAd(a, b, b, b)));
            }
            List<Check.Call> calls = new ArrayList<>(List.of(() -> plan.count(a), () -> plan.describe(a),
                    () -> plan.describedByte(a), () -> plan.choices(a), () -> plan.cheapestPage(a), () -> plan.bestColor(a),
                    () -> plan.spreadsOf(a), () -> plan.revenueOf(a), () -> plan.revenueOfGroup(a), () -> plan.lateItem(a),
                    () -> plan.emptyRun(a), () -> plan.emptiest(a), () -> plan.setColor(a, false), () -> plan.print(a),
                    () -> plan.take(a), () -> plan.takeStory(a), () -> plan.clear(a), () -> plan.truncateInput(a)));
            calls.addAll(List.of(() -> plan.placeAds(), () -> plan.layStories(), () -> plan.matching(), () -> plan.tightest(),
                    () -> plan.betterExchange(), () -> plan.nearRivals(), () -> plan.lastReady(), () -> plan.nextClosing(),
                    () -> plan.endangered(), () -> plan.lost(), () -> plan.revenue(), () -> plan.fill(),
                    () -> plan.quarterPrice(), () -> plan.digest(), () -> plan.undo(), () -> plan.undo(),
                    () -> plan.undoCount(), () -> plan.pass(a)));
            tell(name, a, 0, calls);
        }
    }

    private static void tell(String name, int a, int b, List<Check.Call> calls) {
        for (int i = 0; i < calls.size(); i++) {
            Object answer = Check.answerOf(calls.get(i));
            boolean told = !(answer instanceof String) || TOLD.contains(answer);
            check.same(name + ": call " + i + " with " + a + " and " + b + ": " + answer, told, true);
        }
    }
}
