import java.util.List;
import java.util.function.Function;
import java.util.function.Supplier;

/** Boundary cases of UNDO, of exceptions and refusals, and of promises 59 and 60. */
final class BoundsOfChanges extends Bounds {
    /** Calls that are changes of made(), the answers that look like refusals among them. */
    private static final List<Function<FlatPlan, Object>> CHANGES = List.of(
            p -> p.addAd(1, 0, 1, 0), p -> p.setAd(2, true, 1), p -> p.setPrice(0, 9), p -> p.setPrice(0, 5),
            p -> p.put(2, 6), p -> p.put(0, 1), p -> p.lay(1, 6), p -> p.lay(0, 3), p -> p.take(0), p -> p.takeStory(0),
            p -> p.use(1, 6), p -> p.use(0, 1), p -> p.clear(1), p -> p.exchange(2, 6), p -> p.exchange(5, 5),
            p -> p.setColor(1, true), p -> p.setColor(1, false), p -> p.setClosing(1, 7), p -> p.setClosing(0, 1),
            p -> p.pass(1), p -> p.pass(500), p -> p.print(3), p -> p.placeAds(), p -> p.layStories());

    /** Calls that change nothing, whatever they answer. */
    private static final List<Function<FlatPlan, Object>> QUESTIONS = List.of(
            p -> p.errorCode(), p -> p.errorPosition(), p -> p.count(0), p -> p.ad(0, 0), p -> p.story(0, 0), p -> p.standby(0, 0),
            p -> p.page(1, 0), p -> p.adOn(1, 0), p -> p.form(0, 0), p -> p.pageOf(0, 0), p -> p.reason(2, 6), p -> p.storyReason(1, 6),
            p -> p.nextClosing(), p -> p.choices(2), p -> p.firstPage(2, 1), p -> p.tightest(), p -> p.eviction(2, 1),
            p -> p.cheapestPage(2), p -> p.matching(), p -> p.bestColor(1), p -> p.nearRivals(), p -> p.groupOn(0, 0),
            p -> p.spreadsOf(0), p -> p.revenue(), p -> p.revenueOf(0), p -> p.revenueOfGroup(0), p -> p.lost(), p -> p.endangered(),
            p -> p.lateItem(0), p -> p.lastReady(), p -> p.betterExchange(), p -> p.emptyRun(1), p -> p.emptiest(0), p -> p.fill(),
            p -> p.quarterPrice(), p -> p.describedByte(0), p -> p.digest(), p -> p.undoCount(), p -> p.truncateInput(0),
            p -> p.appendInput(0, 0, 0, 0, 0));

    BoundsOfChanges(Check check) {
        super(check);
    }

    @Override
    void run() {
        lastCall();
        changesAreUndone();
        questionsAreNoChanges();
        latestTwenty();
        ringOfTwenty();
        refusalsAreNoChanges();
        orderOfExceptions();
        nothingIsChanged();
        undo();
        undoCount();
    }

    private FlatPlan made() {
        return loaded("plan 2 4;color 0;close 0 3;ad 1 1 1 0 5 9;ad 2 2 0 0 6 0;ad 4 3 0 0 7 0;story 2 0 0 9;story 1 0 0 0;"
                + "standby 1;standby 2;put 0 1;put 1 2;lay 0 3;");
    }

    /** A plan of which some forms are printed and others have late items. */
    private FlatPlan partlyPrinted() {
        FlatPlan plan = made();
        plan.use(0, 8);
        plan.print(2);
        return plan;
    }

    private void lastCall() {
        told("What it is", "An object is used for at most 512 calls after it has been made");
        FlatPlan plan = new FlatPlan();
        plan.addAd(1, 0, 1, 0);
        for (int call = 2; call <= 511; call++) {
            plan.setPrice(0, call);
        }
        due("the 512th call", 511, () -> plan.ad(0, 4));
        FlatPlan loads = new FlatPlan();
        for (int call = 1; call <= 500; call++) {
            loads.load();
        }
        for (int call = 501; call <= 511; call++) {
            loads.appendInput(0x20202020, 0x20202020, 0x20202020, 0x20202020, 0x20202020);
        }
        due("the 512th call", 0, () -> loads.load());
    }

    private void changesAreUndone() {
        told("UNDO", "calls of the methods whose description says that they are changes,");
        for (int i = 0; i < CHANGES.size(); i++) {
            FlatPlan plan = made();
            List<Object> before = Snapshot.of(plan);
            CHANGES.get(i).apply(plan);
            due("undoCount() after change " + i, 1, () -> plan.undoCount());
            due("undo() of change " + i, true, () -> plan.undo());
            check.same("the plan after undo of change " + i, Snapshot.of(plan), before);
            due("undo() once more", false, () -> plan.undo());
        }
    }

    private void questionsAreNoChanges() {
        told("Promise 60", "Returns the number of changes that can be undone.");
        for (int i = 0; i < QUESTIONS.size(); i++) {
            Function<FlatPlan, Object> question = QUESTIONS.get(i);
            Supplier<FlatPlan> changedOnce = () -> {
                FlatPlan plan = made();
                plan.setPrice(1, 8);
                return plan;
            };
            refused(changedOnce, "question " + i, question.apply(changedOnce.get()), question);
            FlatPlan plan = changedOnce.get();
            question.apply(plan);
            due("undoCount() after question " + i, 1, () -> plan.undoCount());
            due("undo() after question " + i, true, () -> plan.undo());
            due("the price then", 6, () -> plan.ad(1, 4));
        }
    }

    private void latestTwenty() {
        told("UNDO", "The latest 20 changes can be undone:");
        for (int changes : new int[] {0, 1, 19, 20, 21, 22, 39, 40, 41, 60, 61, 100}) {
            FlatPlan plan = loaded("plan 1 4;ad 1 0 0 0 1 0;");
            for (int price = 2; price < 2 + changes; price++) {
                plan.setPrice(0, price);
            }
            int kept = Math.min(changes, 20);
            due("undoCount() after " + changes, kept, () -> plan.undoCount());
            for (int i = 1; i <= kept; i++) {
                int due = changes + 1 - i;
                int left = kept - i;
                due("undo() " + i + " of " + changes, true, () -> plan.undo());
                due("the price then", due, () -> plan.ad(0, 4));
                due("undoCount() then", left, () -> plan.undoCount());
            }
            due("undo() once more", false, () -> plan.undo());
            due("the price then", changes + 1 - kept, () -> plan.ad(0, 4));
        }
    }

    private void ringOfTwenty() {
        told("UNDO", "The latest 20 changes can be undone");
        // Undone changes make room again, and a refused call takes none.
        FlatPlan plan = loaded("plan 1 4;ad 1 0 0 0 1 0;");
        for (int price = 2; price <= 26; price++) {
            plan.setPrice(0, price);
        }
        for (int i = 0; i < 15; i++) {
            plan.undo();
        }
        due("undoCount() after 15 undone", 5, () -> plan.undoCount());
        for (int price = 101; price <= 115; price++) {
            plan.setPrice(0, price);
            plan.take(0);
            plan.put(0, 9);
        }
        due("undoCount()", 20, () -> plan.undoCount());
        plan.setPrice(0, 116);
        due("undoCount()", 20, () -> plan.undoCount());
        for (int price = 115; price >= 101; price--) {
            int due = price;
            plan.undo();
            due("the price", due, () -> plan.ad(0, 4));
        }
        int[] due = {11, 10, 9, 8, 7};
        for (int price : due) {
            due("undo()", true, () -> plan.undo());
            due("the price", price, () -> plan.ad(0, 4));
        }
        due("undo() of a 21st", false, () -> plan.undo());
        due("the price", 7, () -> plan.ad(0, 4));
    }

    private void refusalsAreNoChanges() {
        told("UNDO", "if they return neither false nor an error code (or reason).");
        List<Function<FlatPlan, Object>> refusals = List.of(
                p -> p.setAd(0, false, 0), p -> p.put(2, 0), p -> p.put(2, 5), p -> p.put(2, 1), p -> p.lay(1, 9), p -> p.lay(1, 8),
                p -> p.lay(1, 2), p -> p.take(2), p -> p.takeStory(1), p -> p.use(1, 0), p -> p.use(1, 5), p -> p.use(0, 6),
                p -> p.use(1, 3), p -> p.clear(7), p -> p.clear(8), p -> p.exchange(1, 8), p -> p.exchange(1, 3), p -> p.exchange(1, 2),
                p -> p.setColor(0, false), p -> p.setColor(2, true), p -> p.setClosing(2, 9), p -> p.print(0), p -> p.print(1),
                p -> p.print(2));
        Object[] due = {false, 1, 2, 3, 1, 2, 3, false, false, 1, 2, 2, 3, -4, -4, 2, 3, 4, false, false, -4, -4, -4, -4};
        for (int i = 0; i < due.length; i++) {
            refused(this::partlyPrinted, "refusal " + i, due[i], refusals.get(i));
        }
        Supplier<FlatPlan> full = () -> loaded("plan 1 4;" + "ad 1 0 0 0 1 0;".repeat(40));
        refused(full, "addAd of a 41st", -2, p -> p.addAd(1, 0, 1, 0));
        refused(() -> {
            FlatPlan plan = new FlatPlan();
            for (int i = 0; i < 20; i++) {
                plan.pass(499);
            }
            return plan;
        }, "pass(500) at 9980", -2, p -> p.pass(500));
    }

    private void orderOfExceptions() {
        told("Exceptions", "Exceptions are checked in the order in which a method lists them.");
        refused(this::made, "setAd(3, true, 3)", NO_INDEX, p -> p.setAd(3, true, 3));
        refused(this::made, "setAd(-1, true, -1)", NO_INDEX, p -> p.setAd(-1, true, -1));
        refused(this::made, "setPrice(3, 0)", NO_INDEX, p -> p.setPrice(3, 0));
        refused(this::made, "setPrice(-1, 1000)", NO_INDEX, p -> p.setPrice(-1, 1000));
        refused(this::made, "setClosing(4, 0)", NO_INDEX, p -> p.setClosing(4, 0));
        refused(this::made, "setClosing(-1, 10000)", NO_INDEX, p -> p.setClosing(-1, 10000));
        // An exception comes before an answer.
        refused(this::made, "setAd(0, true, 3) of a placed ad", NO_ARGUMENT, p -> p.setAd(0, true, 3));
        refused(this::partlyPrinted, "setClosing(2, 0) of a printed form", NO_ARGUMENT, p -> p.setClosing(2, 0));
        refused(() -> loaded("plan 1 4;" + "ad 1 0 0 0 1 0;".repeat(40)), "addAd(0, 0, 1, 0) of a 41st", NO_ARGUMENT,
                p -> p.addAd(0, 0, 1, 0));
        refused(this::made, "put(3, 0)", NO_INDEX, p -> p.put(3, 0));
        refused(this::made, "lay(2, 0)", NO_INDEX, p -> p.lay(2, 0));
        refused(this::made, "use(2, 0)", NO_INDEX, p -> p.use(2, 0));
    }

    private void nothingIsChanged() {
        told("Exceptions", "A call that throws an exception, or returns false or an error code, changes nothing,"
                + " except where its description says so.");
        List<Function<FlatPlan, Object>> throwing = List.of(
                p -> p.ad(3, 0), p -> p.story(2, 0), p -> p.standby(2, 0), p -> p.page(9, 0), p -> p.adOn(9, 0), p -> p.form(4, 0),
                p -> p.pageOf(4, 0), p -> p.reason(3, 1), p -> p.storyReason(2, 1), p -> p.put(3, 1), p -> p.lay(2, 1), p -> p.take(3),
                p -> p.takeStory(2), p -> p.use(2, 1), p -> p.clear(9), p -> p.exchange(9, 1), p -> p.exchange(1, 9),
                p -> p.setColor(4, true), p -> p.setClosing(4, 1), p -> p.print(4), p -> p.choices(3), p -> p.firstPage(3, 1),
                p -> p.eviction(3, 1), p -> p.eviction(0, 9), p -> p.cheapestPage(3), p -> p.revenueOf(4), p -> p.describe(9),
                p -> p.setAd(3, true, 0), p -> p.setPrice(3, 1));
        for (int i = 0; i < throwing.size(); i++) {
            refused(this::describedPlan, "exception " + i, NO_INDEX, throwing.get(i));
        }
        List<Function<FlatPlan, Object>> arguments = List.of(
                p -> p.addAd(3, 0, 1, 0), p -> p.setAd(2, true, 3), p -> p.setPrice(0, 1000), p -> p.setClosing(0, 10000),
                p -> p.pass(501), p -> p.bestColor(9), p -> p.groupOn(10, 0), p -> p.groupOn(0, 5), p -> p.spreadsOf(10),
                p -> p.revenueOfGroup(10), p -> p.emptyRun(65));
        for (int i = 0; i < arguments.size(); i++) {
            refused(this::describedPlan, "wrong argument " + i, NO_ARGUMENT, arguments.get(i));
        }
        refused(() -> {
            FlatPlan plan = describedPlan();
            plan.undo();
            plan.take(0);
            plan.take(1);
            return plan;
        }, "quarterPrice()", "throws.ArithmeticException", p -> p.quarterPrice());
        refused(this::made, "undo()", false, p -> p.undo());
        refused(this::made, "appendInput to 1620", -1, p -> {
            for (int i = 0; i < 80; i++) {
                p.appendInput(0, 0, 0, 0, 0);
            }
            return p.appendInput(0, 0, 0, 0, 0);
        });
        refused(this::made, "truncateInput(1)", -1, p -> p.truncateInput(1));
    }

    /** A plan with a change, an error and a description. */
    private FlatPlan describedPlan() {
        FlatPlan plan = made();
        plan.setPrice(1, 8);
        plan.describe(1);
        Check.append(plan, "  bad");
        plan.load();
        return plan;
    }

    private void undo() {
        told("Promise 59", "Returns true; false if there is none.");
        due("undo() of a new plan", false, () -> new FlatPlan().undo());
        due("undo() of a loaded plan", false, () -> made().undo());
        FlatPlan plan = made();
        plan.setPrice(1, 8);
        due("undo()", true, () -> plan.undo());
        due("undo() of none", false, () -> plan.undo());
        due("undo() of none again", false, () -> plan.undo());
        due("undoCount()", 0, () -> plan.undoCount());
        plan.setPrice(1, 9);
        due("undo() of a new change", true, () -> plan.undo());
        told("Promise 59", "Undoes the latest change that was not undone.");
        FlatPlan two = made();
        List<Object> first = Snapshot.ofPlan(two);
        two.setPrice(0, 11);
        two.put(2, 6);
        two.undo();
        due("ad(2, 6) after undo", -1, () -> two.ad(2, 6));
        due("ad(0, 4) after undo", 11, () -> two.ad(0, 4));
        two.undo();
        check.same("the plan after the other undo", Snapshot.ofPlan(two), first);
        Check.append(two, "plan 1 4;");
        two.setPrice(0, 12);
        two.load();
        due("undo() after a load", false, () -> two.undo());
        due("count(0) after a load", 4, () -> two.count(0));
    }

    private void undoCount() {
        told("Promise 60", "Returns 0 to 20.");
        FlatPlan plan = made();
        due("undoCount() of a loaded plan", 0, () -> plan.undoCount());
        due("undoCount() of a new plan", 0, () -> new FlatPlan().undoCount());
        for (int i = 1; i <= 22; i++) {
            plan.placeAds();
            int due = Math.min(i, 20);
            due("undoCount() after " + i, due, () -> plan.undoCount());
        }
        plan.undo();
        due("undoCount() after an undo", 19, () -> plan.undoCount());
        plan.layStories();
        due("undoCount() after another change", 20, () -> plan.undoCount());
        Check.append(plan, "bad");
        plan.load();
        due("undoCount() after a failed load", 20, () -> plan.undoCount());
        plan.load();
        due("undoCount() after a load", 0, () -> plan.undoCount());
    }
}
