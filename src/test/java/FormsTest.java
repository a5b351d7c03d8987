/** Promises 27 to 31 and TIME: color, closing times, the passing of hours and printing. */
public final class FormsTest {
    private static final Check check = new Check("FormsTest");

    public static void main(String[] args) {
        setColor();
        setClosing();
        closingAtOnce();
        pass();
        hoursPassOneByOne();
        standbysReplace();
        storiesAreRemoved();
        severalAtOnce();
        print();
        nextClosing();
        check.end();
    }

    private static void changes(FlatPlan plan, int due) {
        check.due("undoCount()", due, () -> plan.undoCount());
    }

    private static void setColor() {
        FlatPlan plan = check.loaded("plan 1 8;color 0;ad 1 0 1 0 1 0;story 2 1 0 0;");
        check.index("setColor(2)", () -> plan.setColor(2, true));
        check.index("setColor(-1)", () -> plan.setColor(-1, true));
        check.due("setColor(0, true) as it is", true, () -> plan.setColor(0, true));
        plan.put(0, 8);
        check.due("setColor(0, false) under an ad", false, () -> plan.setColor(0, false));
        check.due("setColor(0, true) under an ad", true, () -> plan.setColor(0, true));
        check.due("setColor(1, true)", true, () -> plan.setColor(1, true));
        check.due("form(1, 0)", 1, () -> plan.form(1, 0));
        check.due("setColor(1, false)", true, () -> plan.setColor(1, false));
        check.due("form(1, 0)", 0, () -> plan.form(1, 0));
        changes(plan, 5);
        plan.setColor(1, true);
        plan.lay(0, 3);
        check.due("setColor(1, false) under a story", false, () -> plan.setColor(1, false));
        plan.take(0);
        check.due("setColor(0, false) under a story", false, () -> plan.setColor(0, false));
        plan.takeStory(0);
        check.due("setColor(0, false)", true, () -> plan.setColor(0, false));
        plan.print(1);
        check.due("setColor(1, true) printed", false, () -> plan.setColor(1, true));
        check.due("setColor(1, false) printed", false, () -> plan.setColor(1, false));
        changes(plan, 11);
    }

    private static void setClosing() {
        FlatPlan plan = check.loaded("plan 1 8;close 1 5;");
        check.index("setClosing(2, 0)", () -> plan.setClosing(2, 0));
        check.index("setClosing(-1, 1)", () -> plan.setClosing(-1, 1));
        check.argument("setClosing(0, 0)", () -> plan.setClosing(0, 0));
        check.argument("setClosing(0, 10000)", () -> plan.setClosing(0, 10000));
        check.due("setClosing(0, 9999)", -1, () -> plan.setClosing(0, 9999));
        check.due("setClosing(0, 1)", 9999, () -> plan.setClosing(0, 1));
        check.due("setClosing(1, 5)", 5, () -> plan.setClosing(1, 5));
        changes(plan, 3);
        check.due("form(0, 1)", 0, () -> plan.form(0, 1));
        plan.print(1);
        check.due("setClosing(1, 9) printed", -4, () -> plan.setClosing(1, 9));
        check.argument("setClosing(1, 0) printed", () -> plan.setClosing(1, 0));
        check.due("form(1, 2)", 5, () -> plan.form(1, 2));
        changes(plan, 4);
    }

    private static void closingAtOnce() {
        FlatPlan plan = check.loaded("plan 1 8;ad 2 0 0 0 30 9;ad 1 0 0 0 7 3;standby 2;put 0 1;put 1 4;");
        plan.pass(3);
        check.due("setClosing(0, 4)", -1, () -> plan.setClosing(0, 4));
        check.due("form(0, 1) open", 0, () -> plan.form(0, 1));
        check.due("setClosing(0, 3)", 4, () -> plan.setClosing(0, 3));
        check.due("form(0, 1) closed", 1, () -> plan.form(0, 1));
        check.due("form(0, 2)", 3, () -> plan.form(0, 2));
        check.due("ad(0, 6)", -1, () -> plan.ad(0, 6));
        check.due("ad(1, 6)", 4, () -> plan.ad(1, 6));
        check.due("standby(0, 1)", 1, () -> plan.standby(0, 1));
        check.due("lost()", 30, () -> plan.lost());
        check.due("undo()", true, () -> plan.undo());
        check.due("form(0, 1) after undo", 0, () -> plan.form(0, 1));
        check.due("form(0, 2) after undo", 4, () -> plan.form(0, 2));
        check.due("ad(0, 6) after undo", 1, () -> plan.ad(0, 6));
        check.due("standby(0, 1) after undo", -1, () -> plan.standby(0, 1));
        check.due("lost() after undo", 0, () -> plan.lost());
        check.due("setClosing(1, 1)", -1, () -> plan.setClosing(1, 1));
        check.due("form(1, 1)", 1, () -> plan.form(1, 1));
    }

    private static void pass() {
        FlatPlan plan = new FlatPlan();
        check.argument("pass(0)", () -> plan.pass(0));
        check.argument("pass(-1)", () -> plan.pass(-1));
        check.argument("pass(501)", () -> plan.pass(501));
        check.argument("pass(greatest)", () -> plan.pass(Integer.MAX_VALUE));
        for (int i = 1; i < 20; i++) {
            check.due("pass(500)", 0, () -> plan.pass(500));
        }
        check.due("count(6)", 9500, () -> plan.count(6));
        check.due("pass(500) beyond", -2, () -> plan.pass(500));
        check.due("pass(1)", 0, () -> plan.pass(1));
        check.due("pass(499) beyond", -2, () -> plan.pass(499));
        changes(plan, 20);
        plan.setClosing(1, 9999);
        check.due("pass(498)", 1, () -> plan.pass(498));
        check.due("count(6)", 9999, () -> plan.count(6));
        check.due("pass(1) beyond", -2, () -> plan.pass(1));
        check.argument("pass(501) beyond", () -> plan.pass(501));
        check.due("setClosing(0, 9999) at the end", -1, () -> plan.setClosing(0, 9999));
        check.due("count(10)", 2, () -> plan.count(10));
    }

    private static void hoursPassOneByOne() {
        FlatPlan plan = check.loaded("plan 2 4;close 0 5;close 1 5;close 2 8;ad 1 0 0 0 1 5;ad 1 0 0 0 2 6;ad 1 0 0 0 4 8;"
                + "ad 1 0 0 0 8 99;put 0 1;put 1 2;put 2 8;put 3 6;");
        check.due("pass(4)", 0, () -> plan.pass(4));
        check.due("pass(1)", 2, () -> plan.pass(1));
        check.due("count(7)", 3, () -> plan.count(7));
        check.due("lost()", 2, () -> plan.lost());
        check.due("pass(500)", 1, () -> plan.pass(500));
        check.due("lost()", 2, () -> plan.lost());
        check.due("form(3, 1)", 0, () -> plan.form(3, 1));
        check.due("undo()", true, () -> plan.undo());
        check.due("undo()", true, () -> plan.undo());
        check.due("count(6)", 4, () -> plan.count(6));
        check.due("pass(500) over all", 3, () -> plan.pass(500));
        check.due("lost()", 2, () -> plan.lost());
        check.due("ad(1, 6)", -1, () -> plan.ad(1, 6));
        check.due("ad(2, 6)", 8, () -> plan.ad(2, 6));
        check.due("put(1, 6) after closing", 0, () -> plan.put(1, 6));
    }

    private static void standbysReplace() {
        // Late on form 0: 1 (page 1), 0 and 2 (page 4), 3 and 4 (page 5); 5 is not late.
        FlatPlan plan = check.loaded("plan 1 8;close 0 2;ad 1 0 0 0 1 9;ad 1 0 0 0 2 9;ad 2 0 0 0 4 3;ad 1 0 0 0 8 9;"
                + "ad 2 0 0 0 16 9;ad 1 0 0 0 32 2;standby 2;standby 4;standby 1;standby 1;standby 2;standby 1;"
                + "put 0 4;put 1 1;put 2 4;put 3 5;put 4 5;put 5 8;");
        plan.use(0, 2);
        check.due("pass(2)", 1, () -> plan.pass(2));
        int[] due = {2, -1, 1, 4, 4, 5};
        for (int i = 0; i < due.length; i++) {
            int one = i;
            check.due("standby(" + i + ", 1)", due[i], () -> plan.standby(one, 1));
        }
        check.due("lost()", 31, () -> plan.lost());
        check.due("count(7)", 1, () -> plan.count(7));
        check.due("page(5, 3)", 3, () -> plan.page(5, 3));
        check.due("page(5, 6)", 1, () -> plan.page(5, 6));
        check.due("form(0, 6)", 0, () -> plan.form(0, 6));
    }

    private static void storiesAreRemoved() {
        FlatPlan plan = check.loaded("plan 1 8;close 0 2;close 1 3;story 3 0 0 3;story 2 0 0 2;story 2 0 0 9;"
                + "lay 0 1;lay 1 4;lay 2 6;");
        check.due("pass(2)", 1, () -> plan.pass(2));
        check.due("story(0, 4)", -1, () -> plan.story(0, 4));
        check.due("story(1, 4)", 4, () -> plan.story(1, 4));
        check.due("story(2, 4)", 6, () -> plan.story(2, 4));
        check.due("page(2, 3)", 4, () -> plan.page(2, 3));
        check.due("page(1, 5)", -1, () -> plan.page(1, 5));
        check.due("lost()", 0, () -> plan.lost());
        check.due("lay(0, 1)", 2, () -> plan.lay(0, 1));
        check.due("pass(1)", 1, () -> plan.pass(1));
        check.due("story(2, 4)", -1, () -> plan.story(2, 4));
        check.due("count(8)", 1, () -> plan.count(8));
    }

    private static void severalAtOnce() {
        // Both forms close at 2: form 0 comes first and takes the only standby.
        FlatPlan plan = check.loaded("plan 1 8;close 1 2;close 0 2;ad 1 0 0 0 1 9;ad 1 0 0 0 2 9;standby 1;put 0 2;put 1 8;");
        check.due("pass(9)", 2, () -> plan.pass(9));
        check.due("standby(0, 1)", 8, () -> plan.standby(0, 1));
        check.due("lost()", 3, () -> plan.lost());
        FlatPlan all = check.loaded("plan 4 4;close 0 2;close 1 2;close 2 2;close 3 2;close 4 2;close 5 2;close 6 2;close 7 2;");
        check.due("pass(2) for eight forms", 8, () -> all.pass(2));
        // The earlier closing time comes first.
        FlatPlan other = check.loaded("plan 1 8;close 1 2;close 0 3;ad 1 0 0 0 1 9;ad 1 0 0 0 2 9;standby 1;put 0 2;put 1 8;");
        check.due("pass(9)", 2, () -> other.pass(9));
        check.due("standby(0, 1)", 2, () -> other.standby(0, 1));
        // A form that is printed already does not close.
        FlatPlan printed = check.loaded("plan 1 8;close 1 2;close 0 3;");
        printed.print(1);
        check.due("pass(9)", 1, () -> printed.pass(9));
    }

    private static void print() {
        FlatPlan plan = check.loaded("plan 1 8;ad 2 0 0 0 1 3;story 2 0 0 5;standby 1;put 0 1;lay 0 2;");
        check.index("print(2)", () -> plan.print(2));
        check.index("print(-1)", () -> plan.print(-1));
        plan.use(0, 8);
        check.due("print(0) with a late ad", -4, () -> plan.print(0));
        check.due("print(1) with a late story", -4, () -> plan.print(1));
        plan.pass(3);
        check.due("print(1) with a late story", -4, () -> plan.print(1));
        changes(plan, 2);
        check.due("print(0)", 13, () -> plan.print(0));
        check.due("form(0, 1)", 1, () -> plan.form(0, 1));
        check.due("print(0) again", -4, () -> plan.print(0));
        plan.pass(2);
        check.due("print(1)", 8, () -> plan.print(1));
        changes(plan, 5);
        plan.undo();
        check.due("form(1, 1) after undo", 0, () -> plan.form(1, 1));
    }

    private static void nextClosing() {
        FlatPlan plan = check.loaded("plan 2 4;close 1 9;close 2 5;close 3 5;");
        check.due("nextClosing()", 2, () -> plan.nextClosing());
        plan.print(2);
        check.due("nextClosing()", 3, () -> plan.nextClosing());
        plan.pass(5);
        check.due("nextClosing()", 1, () -> plan.nextClosing());
        plan.setClosing(0, 9);
        check.due("nextClosing()", 0, () -> plan.nextClosing());
        plan.pass(4);
        check.due("nextClosing()", -1, () -> plan.nextClosing());
        check.due("nextClosing() of a new plan", -1, () -> new FlatPlan().nextClosing());
    }
}
