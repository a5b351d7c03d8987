import java.util.function.Supplier;

/** Boundary cases of TIME and promises 27 to 31. */
final class BoundsOfTime extends Bounds {
    private static final String LATE = "ad 1 0 0 0 1 9999;";

    BoundsOfTime(Check check) {
        super(check);
    }

    @Override
    void run() {
        hours();
        closingTimes();
        lateStories();
        lateAds();
        standbysInPlace();
        noStandby();
        severalForms();
        oneByOne();
        setColor();
        setColorFalse();
        setClosing();
        setClosingReturns();
        setClosingThrows();
        pass();
        passFull();
        print();
        printRefused();
        nextClosing();
    }

    /** The latest plan of a text when so many hours have passed. */
    private FlatPlan after(String text, int hours) {
        FlatPlan plan = loaded(text);
        int left = hours;
        while (left > 0) {
            int step = Math.min(left, 500);
            plan.pass(step);
            left -= step;
        }
        return plan;
    }

    private void placesOfAds(FlatPlan plan, int... due) {
        inOrder("ad(k, 6)", due, k -> plan.ad(k, 6));
    }

    private void placesOfStandbys(FlatPlan plan, int... due) {
        inOrder("standby(k, 1)", due, k -> plan.standby(k, 1));
    }

    private void printedForms(FlatPlan plan, int... due) {
        inOrder("form(f, 1)", due, f -> plan.form(f, 1));
    }

    // ---- TIME

    private void hours() {
        told("TIME", "TIME is counted in hours, 0 at first, at most 9999.");
        due("count(6) of a new plan", 0, () -> new FlatPlan().count(6));
        due("count(6) of a loaded plan", 0, () -> loaded("plan 1 4;").count(6));
        FlatPlan plan = after("plan 1 4;", 9998);
        due("count(6)", 9998, () -> plan.count(6));
        due("pass(2)", -2, () -> plan.pass(2));
        due("pass(1)", 0, () -> plan.pass(1));
        due("count(6)", 9999, () -> plan.count(6));
        due("pass(1) at the end", -2, () -> plan.pass(1));
        due("count(6)", 9999, () -> plan.count(6));
    }

    private void closingTimes() {
        told("TIME", "When the time reaches the closing time of an open form (it is told a closing time not later than the"
                + " present time, or time passes), the form closes:");
        FlatPlan passing = loaded("plan 1 4;close 0 5;");
        due("pass(4) to the hour before", 0, () -> passing.pass(4));
        printedForms(passing, 0, 0);
        due("pass(1) to the hour", 1, () -> passing.pass(1));
        printedForms(passing, 1, 0);
        due("pass(1) to the hour behind", 0, () -> passing.pass(1));
        for (int time : new int[] {1, 6, 7, 8, 9, 9999}) {
            FlatPlan plan = after("plan 1 4;", 7);
            due("setClosing(1, " + time + ") at 7", -1, () -> plan.setClosing(1, time));
            due("form(1, 1) of " + time + " at 7", time <= 7 ? 1 : 0, () -> plan.form(1, 1));
            due("form(1, 2)", time, () -> plan.form(1, 2));
            due("form(0, 1)", 0, () -> plan.form(0, 1));
        }
        FlatPlan printed = after("plan 1 4;close 0 5;", 4);
        printed.print(0);
        due("pass(1) with a form that is printed already", 0, () -> printed.pass(1));
        FlatPlan sooner = after("plan 1 4;close 0 5;", 4);
        sooner.setClosing(0, 6);
        due("pass(1) with a later time", 0, () -> sooner.pass(1));
        due("pass(1) with a later time", 1, () -> sooner.pass(1));
        FlatPlan first = loaded("plan 1 4;close 0 1;");
        due("pass(1) to 1", 1, () -> first.pass(1));
        FlatPlan last = after("plan 1 4;close 0 9999;", 9998);
        due("pass(1) to 9999", 1, () -> last.pass(1));
    }

    private void lateStories() {
        told("TIME", "each late story that has a page on it is removed from all its pages");
        // Form 0 closes at 5: pages 1, 4, 5, 8 of the first signature.
        String text = "plan 2 8;close 0 5;story 2 0 0 5;story 3 0 0 6;story 2 0 0 6;story 2 0 0 9999;story 1 0 0 9999;"
                + "lay 0 1;lay 1 3;lay 2 6;lay 3 8;lay 4 16;";
        FlatPlan plan = after(text, 4);
        inOrder("story(k, 4) at 4", new int[] {1, 3, 6, 8, 16}, k -> plan.story(k, 4));
        due("pass(1)", 1, () -> plan.pass(1));
        inOrder("story(k, 4) at 5", new int[] {1, -1, 6, -1, 16}, k -> plan.story(k, 4));
        inOrder("page(1 +, 3)", new int[] {0, 0, 4, 4, 4, 0, 0, 4, 4, 4}, k -> plan.page(k + 1, 3));
        inOrder("page(1 +, 5)", new int[] {0, 0, -1, -1, -1, 2, 2, -1, -1, -1}, k -> plan.page(k + 1, 5));
        due("lost() of stories", 0, () -> plan.lost());
        due("undo()", true, () -> plan.undo());
        inOrder("story(k, 4) after undo", new int[] {1, 3, 6, 8, 16}, k -> plan.story(k, 4));
        FlatPlan told = after(text, 4);
        due("setClosing(0, 4)", 5, () -> told.setClosing(0, 4));
        inOrder("story(k, 4) told at 4", new int[] {-1, -1, 6, -1, 16}, k -> told.story(k, 4));
        told("TIME", "(none of them is on a printed form, as a story that is late never has a page on one)");
        FlatPlan both = after("plan 1 8;close 0 2;close 1 3;story 2 0 0 9;lay 0 1;", 2);
        due("story(0, 4)", -1, () -> both.story(0, 4));
        due("lay(0, 1) on the printed form", 2, () -> both.lay(0, 1));
        due("lay(0, 2) on the other one", 0, () -> both.lay(0, 2));
        due("print(1) under a late story", -4, () -> both.print(1));
        due("pass(1)", 1, () -> both.pass(1));
        due("story(0, 4)", -1, () -> both.story(0, 4));
    }

    private void lateAds() {
        told("TIME", "then each late ad on it, in ascending order of pages, on one page in ascending order of numbers,"
                + " is removed,");
        String text = "plan 1 4;close 0 5;ad 1 0 0 0 10 5;ad 1 0 0 0 20 6;ad 1 0 0 0 40 4;ad 1 0 0 0 80 9999;ad 1 0 0 0 160 9999;"
                + "put 0 1;put 1 1;put 2 4;put 3 4;put 4 2;";
        FlatPlan plan = after(text, 5);
        placesOfAds(plan, 1, -1, 4, -1, 2);
        due("lost()", 100, () -> plan.lost());
        due("form(0, 4)", 6, () -> plan.form(0, 4));
        FlatPlan told = after(text, 4);
        due("setClosing(0, 4)", 5, () -> told.setClosing(0, 4));
        placesOfAds(told, -1, -1, 4, -1, 2);
        due("lost()", 110, () -> told.lost());
        told("TIME", "in ascending order of pages, on one page in ascending order of numbers");
        // One standby less than late ads each time: the last one in order gets none.
        FlatPlan pages = after("plan 1 8;close 0 1;" + LATE.repeat(3) + "standby 1;standby 1;put 0 8;put 1 4;put 2 1;", 1);
        placesOfStandbys(pages, 1, 4);
        FlatPlan onOne = after("plan 1 4;close 0 1;ad 1 0 0 0 1 9;ad 2 0 0 0 1 9;ad 1 0 0 0 1 9;standby 2;standby 1;put 2 1;"
                + "put 1 1;put 0 4;", 1);
        placesOfStandbys(onOne, 1, 1);
        FlatPlan stories = after("plan 1 4;close 0 1;close 1 1;story 4 0 0 9;" + LATE + "standby 1;lay 0 1;", 1);
        due("page(1, 3) of a removed story", 4, () -> stories.page(1, 3));
        placesOfStandbys(stories, -1);
    }

    private void standbysInPlace() {
        told("TIME", "and the lowest standby that is not used and has the same size is put in its place, if there is one;");
        Supplier<FlatPlan> made = () -> {
            FlatPlan plan = loaded("plan 1 4;close 0 1;ad 4 0 0 0 1 9;ad 2 0 0 0 1 9;ad 1 0 0 0 1 9;ad 1 0 0 0 1 9;standby 1;"
                    + "standby 2;standby 4;standby 1;standby 2;standby 4;standby 1;put 0 1;put 1 4;put 2 4;put 3 4;");
            plan.use(0, 2);
            return plan;
        };
        FlatPlan plan = made.get();
        plan.pass(1);
        placesOfStandbys(plan, 2, 4, 1, 4, -1, -1, 4);
        due("page(1, 3)", 0, () -> plan.page(1, 3));
        due("page(4, 3)", 0, () -> plan.page(4, 3));
        due("page(4, 6)", 3, () -> plan.page(4, 6));
        due("form(0, 5)", 0, () -> plan.form(0, 5));
        changed(made, "pass(1)", 1, p -> p.pass(1));
        told("TIME", "then the form is printed.");
        printedForms(plan, 1, 0);
        due("use(1, 3) from the printed form", 2, () -> plan.use(1, 3));
        due("put(0, 1) back", 2, () -> plan.put(0, 1));
        due("put(0, 3) on the other form", 0, () -> plan.put(0, 3));
    }

    private void noStandby() {
        told("TIME", "has the same size is put in its place, if there is one");
        FlatPlan none = after("plan 1 4;close 0 1;" + LATE + "put 0 1;", 1);
        due("page(1, 3)", 4, () -> none.page(1, 3));
        FlatPlan others = after("plan 1 4;close 0 1;ad 2 0 0 0 1 9;standby 1;standby 4;standby 1;put 0 1;", 1);
        placesOfStandbys(others, -1, -1, -1);
        due("page(1, 3)", 4, () -> others.page(1, 3));
        FlatPlan used = loaded("plan 1 4;close 0 1;ad 2 0 0 0 1 9;standby 2;put 0 1;");
        used.use(0, 1);
        used.pass(1);
        placesOfStandbys(used, 1);
        due("page(1, 3)", 2, () -> used.page(1, 3));
        due("lost()", 1, () -> used.lost());
    }

    private void severalForms() {
        told("TIME", "When several forms close at once, they do so by ascending closing time, on a tie in ascending order.");
        // One standby for the late ads of four forms
        String ads = "plan 2 4;" + LATE.repeat(4) + "standby 1;put 0 8;put 1 7;put 2 4;put 3 3;";
        int[][] closings = {{5, 5, 5, 5}, {6, 5, 5, 5}, {6, 6, 5, 5}, {6, 6, 6, 5}, {5, 6, 7, 8}, {8, 7, 6, 5}, {7, 5, 6, 5}};
        int[] due = {4, 3, 8, 7, 4, 7, 3};
        for (int i = 0; i < closings.length; i++) {
            StringBuilder text = new StringBuilder(ads);
            for (int form = 3; form >= 0; form--) {
                text.append("close ").append(form).append(" ").append(closings[i][form]).append(";");
            }
            FlatPlan plan = loaded(text.toString());
            due("pass(9) of " + i, 4, () -> plan.pass(9));
            placesOfStandbys(plan, due[i]);
        }
        FlatPlan all = loaded("plan 4 4;close 0 2;close 1 2;close 2 2;close 3 2;close 4 2;close 5 2;close 6 2;close 7 2;");
        due("pass(2) of eight forms", 8, () -> all.pass(2));
    }

    private void oneByOne() {
        told("TIME", "Hours pass one by one.");
        // What is ready at the closing of its form stays, though the hour before it was late, and the other way round.
        String text = "plan 2 4;close 0 2;close 1 3;close 2 4;ad 1 0 0 0 1 3;ad 1 0 0 0 2 3;ad 1 0 0 0 4 3;ad 1 0 0 0 8 5;"
                + "standby 1;put 0 1;put 1 2;put 2 5;put 3 8;";
        FlatPlan atOnce = loaded(text);
        due("pass(500)", 3, () -> atOnce.pass(500));
        placesOfAds(atOnce, -1, 2, 5, -1);
        placesOfStandbys(atOnce, 1);
        due("lost()", 9, () -> atOnce.lost());
        FlatPlan slowly = loaded(text);
        inOrder("pass(1) after so many", new int[] {0, 1, 1, 1, 0}, k -> slowly.pass(1));
        placesOfAds(slowly, -1, 2, 5, -1);
        placesOfStandbys(slowly, 1);
        due("digest() the same", atOnce.digest(), () -> slowly.digest());
    }

    // ---- promises 27 and 28

    private void setColor() {
        told("Promise 27", "Gives a form color or takes it away, a change.");
        changed(() -> loaded("plan 1 4;"), "setColor(0, true)", true, p -> p.setColor(0, true));
        changed(() -> loaded("plan 1 4;color 1;"), "setColor(1, true) as it is", true, p -> p.setColor(1, true));
        changed(() -> loaded("plan 1 4;color 1;"), "setColor(1, false)", true, p -> p.setColor(1, false));
        changed(() -> loaded("plan 1 4;color 1;"), "setColor(0, false) as it is", true, p -> p.setColor(0, false));
        told("Promise 27", "`color`: whether it has color");
        FlatPlan plan = loaded("plan 4 4;color 0;");
        plan.setColor(0, false);
        plan.setColor(7, true);
        inOrder("form(f, 0)", new int[] {0, 0, 0, 0, 0, 0, 0, 1}, f -> plan.form(f, 0));
        told("Promise 27", "Throws `IndexOutOfBoundsException` if there is no such form");
        for (int form : new int[] {LEAST, -1, 2, 8, GREATEST}) {
            refused(() -> loaded("plan 1 4;"), "setColor(" + form + ", true)", NO_INDEX, p -> p.setColor(form, true));
            refused(() -> loaded("plan 1 4;"), "setColor(" + form + ", false)", NO_INDEX, p -> p.setColor(form, false));
        }
    }

    private void setColorFalse() {
        told("Promise 27", "Returns true; false if it is printed, or if color is taken away and an item with color has a page on it.");
        Supplier<FlatPlan> printed = () -> {
            FlatPlan plan = loaded("plan 1 4;color 1;");
            plan.print(0);
            plan.print(1);
            return plan;
        };
        refused(printed, "setColor(0, true) printed", false, p -> p.setColor(0, true));
        refused(printed, "setColor(0, false) printed", false, p -> p.setColor(0, false));
        refused(printed, "setColor(1, true) printed", false, p -> p.setColor(1, true));
        refused(printed, "setColor(1, false) printed", false, p -> p.setColor(1, false));
        // The ad with color is on form 0, the story with color on 1 and 2, others without color on 3.
        Supplier<FlatPlan> made = () -> {
            FlatPlan plan = loaded("plan 2 4;color 0;color 1;color 2;color 3;ad 1 0 1 0 1 0;ad 1 0 0 0 1 0;ad 1 0 1 0 1 0;"
                    + "story 3 1 0 0;story 1 0 0 0;story 1 1 0 0;standby 1;put 0 1;put 1 6;lay 0 3;lay 1 7;");
            plan.use(0, 6);
            return plan;
        };
        refused(made, "setColor(0, false) under an ad", false, p -> p.setColor(0, false));
        refused(made, "setColor(1, false) under a story's first page", false, p -> p.setColor(1, false));
        refused(made, "setColor(2, false) under a story's last page", false, p -> p.setColor(2, false));
        changed(made, "setColor(3, false) under items without color", true, p -> p.setColor(3, false));
        changed(made, "setColor(0, true) under an ad", true, p -> p.setColor(0, true));
        changed(made, "setColor(2, true) under a story", true, p -> p.setColor(2, true));
        FlatPlan taken = made.get();
        taken.takeStory(0);
        due("setColor(2, false) without the story", true, () -> taken.setColor(2, false));
        due("setColor(1, false) without the story", true, () -> taken.setColor(1, false));
        due("setColor(0, false) under the ad", false, () -> taken.setColor(0, false));
        taken.take(0);
        due("setColor(0, false) without the ad", true, () -> taken.setColor(0, false));
    }

    private void setClosing() {
        told("Promise 28", "Sets the closing time of a form, a change.");
        changed(() -> loaded("plan 1 4;"), "setClosing(0, 1)", -1, p -> p.setClosing(0, 1));
        changed(() -> loaded("plan 1 4;"), "setClosing(1, 9999)", -1, p -> p.setClosing(1, 9999));
        changed(() -> loaded("plan 1 4;close 1 7;"), "setClosing(1, 7) as it is", 7, p -> p.setClosing(1, 7));
        changed(() -> after("plan 1 4;close 0 7;" + LATE + "standby 1;story 1 0 0 9;put 0 1;lay 0 4;", 3), "setClosing(0, 3) closing it",
                7, p -> p.setClosing(0, 3));
        told("Promise 28", "`time`: 1 to 9999");
        FlatPlan plan = loaded("plan 1 4;");
        due("setClosing(0, 9999)", -1, () -> plan.setClosing(0, 9999));
        due("setClosing(0, 1)", 9999, () -> plan.setClosing(0, 1));
        due("form(0, 2)", 1, () -> plan.form(0, 2));
        due("setClosing(0, 0)", NO_ARGUMENT, () -> plan.setClosing(0, 0));
        due("setClosing(0, 10000)", NO_ARGUMENT, () -> plan.setClosing(0, 10000));
    }

    private void setClosingReturns() {
        told("Promise 28", "Returns the previous one, NONE if there was none (it is a change then, too); REFUSED if the form is printed.");
        FlatPlan plan = loaded("plan 1 4;close 0 8;");
        due("setClosing(0, 9)", 8, () -> plan.setClosing(0, 9));
        due("setClosing(0, 4)", 9, () -> plan.setClosing(0, 4));
        due("setClosing(1, 5)", -1, () -> plan.setClosing(1, 5));
        due("undoCount()", 3, () -> plan.undoCount());
        due("setClosing(1, 6)", 5, () -> plan.setClosing(1, 6));
        Supplier<FlatPlan> printed = () -> {
            FlatPlan p = after("plan 1 4;close 0 2;", 2);
            p.print(1);
            return p;
        };
        refused(printed, "setClosing(0, 9) of a closed form", -4, p -> p.setClosing(0, 9));
        refused(printed, "setClosing(0, 1) of a closed form", -4, p -> p.setClosing(0, 1));
        refused(printed, "setClosing(1, 9) of a printed form", -4, p -> p.setClosing(1, 9));
    }

    private void setClosingThrows() {
        String text = "plan 1 4;close 0 8;";
        told("Promise 28", "Throws `IndexOutOfBoundsException` if there is no such form");
        for (int form : new int[] {LEAST, -1, 2, 8, GREATEST}) {
            refused(() -> loaded(text), "setClosing(" + form + ", 1)", NO_INDEX, p -> p.setClosing(form, 1));
            refused(() -> loaded(text), "setClosing(" + form + ", 0)", NO_INDEX, p -> p.setClosing(form, 0));
        }
        told("Promise 28", "Throws `IllegalArgumentException` if time is out of range");
        for (int time : new int[] {LEAST, -1, 0, 10000, GREATEST}) {
            refused(() -> loaded(text), "setClosing(0, " + time + ")", NO_ARGUMENT, p -> p.setClosing(0, time));
            refused(() -> after(text, 8), "setClosing(0, " + time + ") printed", NO_ARGUMENT, p -> p.setClosing(0, time));
        }
    }

    // ---- promises 29 to 31

    private void pass() {
        told("Promise 29", "Lets hours pass, a change.");
        changed(() -> loaded("plan 1 4;"), "pass(1)", 0, p -> p.pass(1));
        changed(() -> loaded("plan 1 4;close 0 500;" + LATE + "put 0 1;"), "pass(500)", 1, p -> p.pass(500));
        told("Promise 29", "`hours`: 1 to 500");
        FlatPlan plan = new FlatPlan();
        due("pass(1)", 0, () -> plan.pass(1));
        due("count(6)", 1, () -> plan.count(6));
        due("pass(500)", 0, () -> plan.pass(500));
        due("count(6)", 501, () -> plan.count(6));
        told("Promise 29", "Throws `IllegalArgumentException` if hours is out of range");
        for (int hours : new int[] {LEAST, -500, -1, 0, 501, 9999, 10000, GREATEST}) {
            refused(() -> loaded("plan 1 4;close 0 1;"), "pass(" + hours + ")", NO_ARGUMENT, p -> p.pass(hours));
            refused(() -> after("plan 1 4;", 9999), "pass(" + hours + ") at 9999", NO_ARGUMENT, p -> p.pass(hours));
        }
    }

    private void passFull() {
        told("Promise 29", "Returns the number of forms that were printed; FULL if the time would exceed 9999.");
        FlatPlan plan = loaded("plan 2 4;close 0 1;close 1 500;close 2 501;");
        due("pass(500) past two", 2, () -> plan.pass(500));
        due("pass(1)", 1, () -> plan.pass(1));
        due("pass(500) past none", 0, () -> plan.pass(500));
        Supplier<FlatPlan> nearEnd = () -> after("plan 1 4;close 0 9600;close 1 9999;" + LATE + "put 0 1;", 9500);
        refused(nearEnd, "pass(500) to 10000", -2, p -> p.pass(500));
        changed(nearEnd, "pass(499) to 9999", 2, p -> p.pass(499));
        Supplier<FlatPlan> end = () -> after("plan 1 4;", 9999);
        refused(end, "pass(1) at 9999", -2, p -> p.pass(1));
        refused(end, "pass(500) at 9999", -2, p -> p.pass(500));
        refused(() -> after("plan 1 4;close 0 9999;", 9998), "pass(2) at 9998", -2, p -> p.pass(2));
    }

    private void print() {
        told("Promise 30", "Prints a form at once, a change.");
        changed(() -> loaded("plan 1 4;"), "print(1)", 8, p -> p.print(1));
        changed(() -> loaded("plan 4 16;close 7 5;"), "print(7)", 32, p -> p.print(7));
        FlatPlan plan = loaded("plan 1 4;close 0 5;");
        plan.print(0);
        printedForms(plan, 1, 0);
        due("count(6)", 0, () -> plan.count(6));
        told("Promise 30", "Returns the number of quarters that are left on it;");
        Supplier<FlatPlan> full = () -> {
            FlatPlan p = loaded("plan 1 4;ad 4 0 0 0 1 0;story 1 0 0 0;standby 1;put 0 1;lay 0 4;");
            p.use(0, 2);
            return p;
        };
        changed(full, "print(0) of a full form", 0, p -> p.print(0));
        changed(full, "print(1) with a standby", 7, p -> p.print(1));
        told("Promise 30", "Throws `IndexOutOfBoundsException` if there is no such form");
        for (int form : new int[] {LEAST, -1, 2, 8, GREATEST}) {
            refused(full, "print(" + form + ")", NO_INDEX, p -> p.print(form));
        }
    }

    private void printRefused() {
        told("Promise 30", "REFUSED if it is printed already or has a late item.");
        Supplier<FlatPlan> printed = () -> {
            FlatPlan p = after("plan 1 4;close 0 1;", 1);
            p.print(1);
            return p;
        };
        refused(printed, "print(0) of a closed form", -4, p -> p.print(0));
        refused(printed, "print(1) again", -4, p -> p.print(1));
        // A late ad on form 0, a late story on 2 and 3, none on 1; both are ready at 3.
        String text = "plan 2 4;ad 1 0 0 0 1 3;ad 1 0 0 0 1 9;story 2 0 0 3;put 0 1;lay 0 7;";
        int[] dueBefore = {-4, 8, -4, -4};
        int[] dueThen = {7, 8, 4, 4};
        for (int form = 0; form < 4; form++) {
            int one = form;
            if (dueBefore[form] < 0) {
                refused(() -> after(text, 2), "print(" + form + ") at 2", dueBefore[form], p -> p.print(one));
            } else {
                changed(() -> after(text, 2), "print(" + form + ") at 2", dueBefore[form], p -> p.print(one));
            }
            changed(() -> after(text, 3), "print(" + form + ") at 3", dueThen[form], p -> p.print(one));
        }
    }

    private void nextClosing() {
        told("Promise 31", "Returns the open form that closes next: with the least closing time, on a tie the lowest one.");
        int[][] closings = {{5, 5, 5, 5}, {6, 5, 5, 5}, {9999, 9999, 9999, 9998}, {1, 9999, 1, 1}, {4, 3, 2, 1}};
        int[] due = {0, 1, 3, 0, 3};
        for (int i = 0; i < due.length; i++) {
            StringBuilder text = new StringBuilder("plan 2 4;");
            for (int form = 3; form >= 0; form--) {
                text.append("close ").append(form).append(" ").append(closings[i][form]).append(";");
            }
            due("nextClosing() of " + i, due[i], () -> loaded(text.toString()).nextClosing());
        }
        FlatPlan plan = loaded("plan 2 4;close 1 3;close 2 5;");
        due("nextClosing()", 1, () -> plan.nextClosing());
        plan.pass(3);
        due("nextClosing() when one is closed", 2, () -> plan.nextClosing());
        told("Promise 31", "Returns the form; NONE if no open form has a closing time.");
        due("nextClosing() of a new plan", -1, () -> new FlatPlan().nextClosing());
        plan.print(2);
        due("nextClosing() when all are printed", -1, () -> plan.nextClosing());
        plan.setClosing(3, 9999);
        due("nextClosing() of the last form", 3, () -> plan.nextClosing());
    }
}
