import java.util.ArrayList;
import java.util.List;

/** Promises 59 and 60 and UNDO: every kind of change is undone, and nothing else counts as one. */
public final class UndoTest {
    private static final Check check = new Check("UndoTest");

    public static void main(String[] args) {
        everyChange();
        noChanges();
        latestTwenty();
        otherThingsStay();
        check.end();
    }

    private static FlatPlan sample() {
        return check.loaded("plan 2 4;color 0;close 0 3;close 3 9;ad 1 1 1 0 5 9;ad 2 2 0 0 6 0;ad 4 3 0 0 7 0;"
                + "story 2 0 0 9;story 1 0 0 0;standby 1;standby 2;put 0 1;put 1 4;lay 0 5;");
    }

    private static void everyChange() {
        FlatPlan plan = sample();
        List<Check.Call> changes = List.of(() -> plan.addAd(1, 4, 3, 2), () -> plan.setAd(2, false, 2),
                () -> plan.setPrice(0, 50), () -> plan.put(2, 3), () -> plan.lay(1, 2), () -> plan.take(1),
                () -> plan.takeStory(1), () -> plan.use(1, 4), () -> plan.exchange(1, 4), () -> plan.clear(1),
                () -> plan.setColor(1, true), () -> plan.placeAds(), () -> plan.layStories(),
                () -> plan.setClosing(2, 7), () -> plan.pass(3), () -> plan.print(1), () -> plan.setClosing(3, 1),
                () -> plan.exchange(8, 8), () -> plan.pass(6));
        List<List<Object>> states = new ArrayList<>();
        for (int i = 0; i < changes.size(); i++) {
            states.add(Snapshot.ofPlan(plan));
            Object answer = Check.answerOf(changes.get(i));
            check.same("change " + i + " is one", plan.undoCount() + " " + answer, i + 1 + " " + answer);
        }
        for (int i = changes.size() - 1; i >= 0; i--) {
            check.due("undo of change " + i, true, () -> plan.undo());
            check.same("the state before change " + i, Snapshot.ofPlan(plan), states.get(i));
            check.due("undoCount()", i, () -> plan.undoCount());
        }
        check.due("undo of none", false, () -> plan.undo());
        check.same("the first state", Snapshot.ofPlan(plan), Snapshot.ofPlan(sample()));
    }

    private static void noChanges() {
        FlatPlan plan = sample();
        plan.print(1);
        List<Object> before = Snapshot.ofPlan(plan);
        List<Check.Call> calls = List.of(() -> plan.addAd(3, 0, 1, 0), () -> plan.setAd(0, true, 0), () -> plan.setAd(2, true, 3),
                () -> plan.setPrice(0, 0), () -> plan.put(2, 2), () -> plan.put(0, 0), () -> plan.lay(0, 4), () -> plan.take(2),
                () -> plan.takeStory(1), () -> plan.use(0, 2), () -> plan.clear(8), () -> plan.exchange(1, 2),
                () -> plan.exchange(1, 8), () -> plan.setColor(1, true), () -> plan.setColor(0, false),
                () -> plan.setClosing(1, 5), () -> plan.pass(501), () -> plan.print(0), () -> plan.print(1),
                () -> plan.nextClosing(), () -> plan.choices(0), () -> plan.eviction(2, 1), () -> plan.cheapestPage(2),
                () -> plan.matching(), () -> plan.bestColor(1), () -> plan.betterExchange(), () -> plan.endangered(),
                () -> plan.describe(1), () -> plan.tightest(), () -> plan.lateItem(0), () -> plan.emptiest(0));
        for (int i = 0; i < calls.size(); i++) {
            Check.answerOf(calls.get(i));
            check.same("the state after call " + i, Snapshot.ofPlan(plan), before);
            check.same("undoCount() after call " + i, plan.undoCount(), 1);
        }
    }

    private static void latestTwenty() {
        FlatPlan plan = check.loaded("ad 1 0 0 0 1 0;");
        for (int price = 2; price <= 50; price++) {
            plan.setPrice(0, price);
            int due = Math.min(price - 1, 20);
            check.due("undoCount() at " + price, due, () -> plan.undoCount());
        }
        for (int price = 49; price >= 30; price--) {
            int due = price;
            check.due("undo to " + price, true, () -> plan.undo());
            check.due("ad(0, 4)", due, () -> plan.ad(0, 4));
        }
        check.due("undo of a 21st", false, () -> plan.undo());
        check.due("ad(0, 4)", 30, () -> plan.ad(0, 4));
        plan.setPrice(0, 900);
        plan.setPrice(0, 901);
        plan.undo();
        plan.setPrice(0, 902);
        check.due("undoCount()", 2, () -> plan.undoCount());
        plan.undo();
        check.due("ad(0, 4)", 900, () -> plan.ad(0, 4));
        plan.undo();
        check.due("ad(0, 4)", 30, () -> plan.ad(0, 4));
        check.due("undo of none", false, () -> plan.undo());
    }

    private static void otherThingsStay() {
        FlatPlan plan = sample();
        plan.setPrice(0, 9);
        plan.describe(1);
        Check.append(plan, "bad");
        plan.load();
        plan.appendInput(0, 0, 0, 0, 0);
        check.due("undo()", true, () -> plan.undo());
        check.due("errorCode()", 1, () -> plan.errorCode());
        check.due("errorPosition()", 0, () -> plan.errorPosition());
        check.due("the buffer", 20, () -> plan.truncateInput(20));
        check.due("the description", (int) 'a', () -> plan.describedByte(0));
        plan.setPrice(0, 9);
        Check.append(plan, "");
        check.due("load()", 0, () -> plan.load());
        check.due("undoCount() after load", 0, () -> plan.undoCount());
        check.due("undo() after load", false, () -> plan.undo());
        check.due("the description after load", (int) 'a', () -> plan.describedByte(0));
    }
}
