import java.util.function.Supplier;

/** Boundary cases of promises 42 to 48 and 54 to 58. */
final class BoundsOfSums extends Bounds {
    private static final String AD = "ad 1 0 0 0 1 0;";
    private static final String STORY = "story 1 0 0 0;";
    private static final int[] NO_GROUPS = {LEAST, -1, 10, GREATEST};

    BoundsOfSums(Check check) {
        super(check);
    }

    @Override
    void run() {
        nearRivals();
        groupOn();
        spreadsOf();
        revenue();
        revenueOf();
        revenueOfGroup();
        lost();
        lostSince();
        endangered();
        endangeredByTime();
        fill();
        quarterPrice();
        describe();
        describeThrows();
        describedByte();
        digest();
        digestWraps();
    }

    // ---- promises 41 to 43

    private void nearRivals() {
        told("Promise 41", "Counts the pairs of ads of one group other than 0 that stand on neighboring spreads"
                + " (whose numbers differ by 1).");
        due("nearRivals() of a new plan", 0, () -> new FlatPlan().nearRivals());
        // Where the other one stands, with one on page 4, spread 2: page 1 to 8
        int[] due = {0, 1, 1, -1, -1, 1, 1, 0};
        for (int page = 1; page <= 8; page++) {
            int one = page;
            if (due[page - 1] >= 0) {
                FlatPlan plan = loaded("plan 1 8;ad 1 9 0 0 1 0;ad 1 9 0 0 1 0;put 0 4;put 1 " + page + ";");
                due("nearRivals() of 4 and " + page, due[page - 1], () -> plan.nearRivals());
                FlatPlan turned = loaded("plan 1 8;ad 1 9 0 0 1 0;ad 1 9 0 0 1 0;put 1 4;put 0 " + page + ";");
                due("nearRivals() of " + one + " and 4", due[page - 1], () -> turned.nearRivals());
            }
        }
        due("nearRivals() of group 0", 0, () -> loaded("plan 1 8;" + AD + AD + "put 0 4;put 1 2;").nearRivals());
        due("nearRivals() of two groups", 0,
                () -> loaded("plan 1 8;ad 1 1 0 0 1 0;ad 1 2 0 0 1 0;put 0 4;put 1 2;").nearRivals());
        // One that is not placed stands nowhere, neither near spread 0 nor near spread 1.
        FlatPlan ends = loaded("plan 1 4;ad 1 1 0 0 1 0;ad 1 1 0 0 1 0;ad 1 1 0 0 1 0;put 1 2;");
        due("nearRivals() of one on 2", 0, () -> ends.nearRivals());
        ends.put(0, 1);
        due("nearRivals() of 1 and 2", 1, () -> ends.nearRivals());
        ends.put(2, 4);
        due("nearRivals() of 1, 2 and 4", 2, () -> ends.nearRivals());
        ends.take(1);
        due("nearRivals() of 1 and 4", 0, () -> ends.nearRivals());
        StringBuilder all = new StringBuilder("plan 4 16;" + "ad 1 1 0 0 1 0;".repeat(33));
        for (int ad = 0; ad < 33; ad++) {
            all.append("put ").append(ad).append(" ").append(Math.max(1, 2 * ad)).append(";");
        }
        due("nearRivals() of 33 spreads", 32, () -> loaded(all.toString()).nearRivals());
    }

    private void groupOn() {
        Supplier<FlatPlan> made = () -> loaded("plan 1 8;ad 1 9 0 0 1 0;ad 1 9 0 0 1 0;ad 1 9 0 0 1 0;" + AD.repeat(9)
                + "put 0 1;put 1 8;put 3 1;put 4 2;put 5 2;put 6 3;put 7 3;put 8 3;put 9 3;put 10 8;");
        FlatPlan plan = made.get();
        told("Promise 42", "Counts the ads of a group on a spread.");
        inOrder("groupOn(0, spread)", new int[] {1, 6, 0, 0, 1}, spread -> plan.groupOn(0, spread));
        inOrder("groupOn(9, spread)", new int[] {1, 0, 0, 0, 1}, spread -> plan.groupOn(9, spread));
        inOrder("groupOn(8, spread)", new int[] {0, 0, 0, 0, 0}, spread -> plan.groupOn(8, spread));
        told("Promise 42", "`group`: 0 to 9");
        inOrder("groupOn(group, 0)", new int[] {1, 0, 0, 0, 0, 0, 0, 0, 0, 1}, group -> plan.groupOn(group, 0));
        told("Promise 42", "`spread`: 0 to N / 2");
        for (int[] size : new int[][] {{1, 4}, {1, 16}, {3, 8}, {4, 16}}) {
            int last = size[0] * size[1];
            FlatPlan ends = loaded("plan " + size[0] + " " + size[1] + ";ad 1 5 0 0 1 0;put 0 " + last + ";");
            due("groupOn(5, N / 2)", 1, () -> ends.groupOn(5, last / 2));
            due("groupOn(5, N / 2 + 1)", NO_ARGUMENT, () -> ends.groupOn(5, last / 2 + 1));
            due("groupOn(5, 0)", 0, () -> ends.groupOn(5, 0));
            due("groupOn(5, -1)", NO_ARGUMENT, () -> ends.groupOn(5, -1));
        }
        told("Promise 42", "Throws `IllegalArgumentException` if group or spread is out of range");
        for (int group : NO_GROUPS) {
            due("groupOn(" + group + ", 0)", NO_ARGUMENT, () -> plan.groupOn(group, 0));
            due("groupOn(" + group + ", 5)", NO_ARGUMENT, () -> plan.groupOn(group, 5));
        }
        for (int spread : new int[] {LEAST, -1, 5, 32, 33, GREATEST}) {
            due("groupOn(0, " + spread + ")", NO_ARGUMENT, () -> plan.groupOn(0, spread));
        }
    }

    private void spreadsOf() {
        told("Promise 43", "Counts the spreads on which an ad of a group stands.");
        FlatPlan plan = loaded("plan 1 8;ad 1 9 0 0 1 0;ad 1 9 0 0 1 0;" + AD.repeat(5) + "put 0 1;put 1 8;put 2 2;put 3 2;put 4 3;");
        due("spreadsOf(9)", 2, () -> plan.spreadsOf(9));
        due("spreadsOf(0)", 1, () -> plan.spreadsOf(0));
        plan.put(5, 4);
        due("spreadsOf(0)", 2, () -> plan.spreadsOf(0));
        plan.take(0);
        due("spreadsOf(9)", 1, () -> plan.spreadsOf(9));
        plan.take(1);
        due("spreadsOf(9) of none", 0, () -> plan.spreadsOf(9));
        StringBuilder all = new StringBuilder("plan 4 16;" + "ad 1 1 0 0 1 0;".repeat(33));
        for (int ad = 0; ad < 33; ad++) {
            all.append("put ").append(ad).append(" ").append(Math.max(1, 2 * ad)).append(";");
        }
        due("spreadsOf(1) of all", 33, () -> loaded(all.toString()).spreadsOf(1));
        told("Promise 43", "`group`: 0 to 9");
        due("spreadsOf(0)", 2, () -> plan.spreadsOf(0));
        due("spreadsOf(9)", 0, () -> plan.spreadsOf(9));
        told("Promise 43", "Throws `IllegalArgumentException` if group is out of range");
        for (int group : NO_GROUPS) {
            due("spreadsOf(" + group + ")", NO_ARGUMENT, () -> plan.spreadsOf(group));
        }
    }

    // ---- promises 44 to 46

    private void revenue() {
        told("Promise 44", "Returns the prices of all placed ads together.");
        due("revenue() of a new plan", 0, () -> new FlatPlan().revenue());
        FlatPlan plan = loaded("plan 1 4;ad 1 0 0 0 1 0;ad 1 0 0 0 999 0;ad 1 0 0 0 50 0;standby 1;");
        due("revenue() when none is placed", 0, () -> plan.revenue());
        plan.use(0, 1);
        due("revenue() of a standby", 0, () -> plan.revenue());
        plan.put(1, 4);
        due("revenue()", 999, () -> plan.revenue());
        plan.put(0, 1);
        due("revenue()", 1000, () -> plan.revenue());
        plan.print(0);
        due("revenue() when all is printed", 1000, () -> plan.revenue());
        FlatPlan most = loaded("plan 1 16;" + "ad 1 0 0 0 999 0;".repeat(40));
        most.placeAds();
        due("revenue() of 40", 39960, () -> most.revenue());
    }

    private void revenueOf() {
        told("Promise 45", "Returns the prices of all placed ads on a form together.");
        FlatPlan plan = loaded("plan 4 4;ad 1 0 0 0 1 0;ad 1 0 0 0 20 0;ad 1 0 0 0 400 0;ad 1 0 0 0 7 0;put 0 1;put 1 4;put 2 15;");
        inOrder("revenueOf", new int[] {21, 0, 0, 0, 0, 0, 0, 400}, form -> plan.revenueOf(form));
        plan.print(0);
        due("revenueOf(0) printed", 21, () -> plan.revenueOf(0));
        told("Promise 45", "Throws `IndexOutOfBoundsException` if there is no such form");
        for (int form : new int[] {LEAST, -1, 8, 9, GREATEST}) {
            due("revenueOf(" + form + ")", NO_INDEX, () -> plan.revenueOf(form));
        }
        due("revenueOf(2) of two forms", NO_INDEX, () -> new FlatPlan().revenueOf(2));
        due("revenueOf(1) of two forms", 0, () -> new FlatPlan().revenueOf(1));
    }

    private void revenueOfGroup() {
        told("Promise 46", "Returns the prices of all placed ads of a group together.");
        FlatPlan plan = loaded("plan 4 4;ad 1 0 0 0 1 0;ad 1 0 0 0 20 0;ad 1 9 0 0 400 0;ad 1 9 0 0 7 0;put 0 1;put 1 4;put 2 15;");
        inOrder("revenueOfGroup", new int[] {21, 0, 0, 0, 0, 0, 0, 0, 0, 400}, group -> plan.revenueOfGroup(group));
        told("Promise 46", "Throws `IllegalArgumentException` if group is out of range");
        for (int group : NO_GROUPS) {
            due("revenueOfGroup(" + group + ")", NO_ARGUMENT, () -> plan.revenueOfGroup(group));
        }
        told("Promise 46", "`group`: 0 to 9");
        plan.take(0);
        due("revenueOfGroup(0)", 20, () -> plan.revenueOfGroup(0));
        plan.put(3, 1);
        due("revenueOfGroup(9)", 407, () -> plan.revenueOfGroup(9));
    }

    // ---- promises 47 and 48

    private void lost() {
        told("Promise 47", "Returns the prices of all ads together that were removed by the closing of forms since the plan was created");
        due("lost() of a new plan", 0, () -> new FlatPlan().lost());
        FlatPlan plan = loaded("plan 2 4;close 0 2;close 1 3;ad 1 0 0 0 1 2;ad 1 0 0 0 20 3;ad 1 0 0 0 300 9;ad 1 0 0 0 400 9;"
                + "story 1 0 0 9;put 0 1;put 1 1;put 2 2;put 3 5;lay 0 4;");
        plan.pass(1);
        plan.take(3);
        due("lost() of an ad that is taken", 0, () -> plan.lost());
        plan.pass(1);
        due("lost() of one that was late", 20, () -> plan.lost());
        plan.pass(1);
        due("lost() of two", 320, () -> plan.lost());
        plan.setPrice(1, 999);
        due("lost() at another price later", 320, () -> plan.lost());
        plan.put(2, 5);
        plan.setClosing(2, 3);
        due("lost() of one removed again", 620, () -> plan.lost());
        told("Promise 47", "undo() brings back what it was.");
        int[] due = {320, 320, 320, 20, 0, 0, 0};
        for (int i = 0; i < due.length; i++) {
            due("undo()", true, () -> plan.undo());
            due("lost() after undo " + i, due[i], () -> plan.lost());
        }
    }

    private void lostSince() {
        told("Promise 47", "or, if a text was loaded since then, since the latest load().");
        FlatPlan plan = loaded("plan 1 4;close 0 1;ad 1 0 0 0 5 9;put 0 1;");
        plan.pass(1);
        due("lost()", 5, () -> plan.lost());
        Check.append(plan, "bad");
        plan.load();
        due("lost() after a failed load", 5, () -> plan.lost());
        Check.append(plan, "plan 1 4;close 1 1;ad 1 0 0 0 7 9;put 0 2;");
        plan.load();
        due("lost() after a load", 0, () -> plan.lost());
        plan.pass(1);
        due("lost() since the load", 7, () -> plan.lost());
    }

    private void endangered() {
        told("Promise 48", "Returns the prices of all ads together that would be removed by the closing of forms,");
        due("endangered() of a new plan", 0, () -> new FlatPlan().endangered());
        // Closing at 5: ready at 4, 5, 6 and at the end; on a form without a time; not placed; on a printed form
        Supplier<FlatPlan> made = () -> loaded("plan 2 4;close 0 5;close 2 9999;ad 1 0 0 0 1 4;ad 1 0 0 0 2 5;ad 1 0 0 0 4 6;"
                + "ad 1 0 0 0 8 9999;ad 1 0 0 0 16 9999;ad 1 0 0 0 32 9999;ad 1 0 0 0 64 9999;put 0 1;put 1 1;put 2 1;put 3 4;put 4 2;"
                + "put 5 8;");
        FlatPlan plan = made.get();
        due("endangered()", 12, () -> plan.endangered());
        plan.setClosing(2, 9998);
        due("endangered() at 9998", 44, () -> plan.endangered());
        plan.setClosing(2, 9999);
        due("endangered() at 9999", 12, () -> plan.endangered());
        plan.setClosing(0, 4);
        due("endangered() at 4", 14, () -> plan.endangered());
        plan.setClosing(0, 1);
        due("endangered() at 1", 15, () -> plan.endangered());
        plan.take(3);
        due("endangered() with one taken", 7, () -> plan.endangered());
        refused(made, "endangered()", 12, p -> p.endangered());
        // Ready at 5, told at 7 to close at 3: it was not late then, and what is printed is in no danger.
        FlatPlan told = loaded("plan 1 4;ad 1 0 0 0 9 5;ad 1 0 0 0 9 6;put 0 1;put 1 2;");
        told.pass(7);
        told.setClosing(0, 3);
        due("lost()", 0, () -> told.lost());
        due("endangered() on a printed form", 0, () -> told.endangered());
        told.print(1);
        due("endangered() when all is printed", 0, () -> told.endangered());
    }

    private void endangeredByTime() {
        told("Promise 48", "if nothing but hours passed until all forms with a closing time are printed.");
        Supplier<FlatPlan> made = () -> loaded("plan 2 4;close 0 5;close 3 8;ad 1 0 0 0 1 5;ad 1 0 0 0 2 6;ad 1 0 0 0 4 8;ad 1 0 0 0 8 9;"
                + "ad 1 0 0 0 16 9999;put 0 1;put 1 4;put 2 6;put 3 7;put 4 5;");
        FlatPlan plan = made.get();
        int[] due = {10, 10, 10, 10, 10, 8, 8, 8, 0, 0};
        for (int time = 0; time < due.length; time++) {
            due("endangered() at " + time, due[time], () -> plan.endangered());
            plan.pass(1);
        }
        due("lost() at the end", 10, () -> plan.lost());
        due("ad(4, 6) without a closing time", 5, () -> plan.ad(4, 6));
    }

    // ---- promises 54 and 55

    private void fill() {
        told("Promise 54", "Returns the number of quarters that are not left divided by 4 * N, as a double.");
        for (int[] size : new int[][] {{1, 4}, {3, 8}, {3, 16}, {4, 16}}) {
            int pages = size[0] * size[1];
            FlatPlan plan = loaded("plan " + size[0] + " " + size[1] + ";" + AD + "standby 2;" + STORY);
            due("fill() of none", 0.0, () -> plan.fill());
            plan.put(0, pages);
            due("fill() of one", 1.0 / (4 * pages), () -> plan.fill());
            plan.use(0, 1);
            due("fill() of three", 3.0 / (4 * pages), () -> plan.fill());
            plan.lay(0, 2);
            due("fill() of seven", 7.0 / (4 * pages), () -> plan.fill());
        }
        due("fill() of all", 1.0, () -> loaded("plan 2 4;story 8 0 0 0;lay 0 1;").fill());
        due("fill() of all but a page", 0.75, () -> loaded("plan 1 4;story 3 0 0 0;lay 0 2;").fill());
    }

    private void quarterPrice() {
        told("Promise 55", "Throws `ArithmeticException` if no ad is placed");
        String none = "throws.ArithmeticException";
        due("quarterPrice() of a new plan", none, () -> new FlatPlan().quarterPrice());
        FlatPlan plan = loaded("plan 1 4;ad 4 0 0 0 1 0;ad 1 0 0 0 999 0;ad 2 0 0 0 2 0;standby 4;" + STORY);
        due("quarterPrice() when none is placed", none, () -> plan.quarterPrice());
        plan.use(0, 4);
        plan.lay(0, 3);
        due("quarterPrice() of other items", none, () -> plan.quarterPrice());
        told("Promise 55", "Returns revenue() divided by the sum of their sizes, as a double.");
        plan.put(0, 1);
        due("quarterPrice() of the least", 0.25, () -> plan.quarterPrice());
        plan.put(1, 2);
        due("quarterPrice() of two", 200.0, () -> plan.quarterPrice());
        plan.put(2, 2);
        due("quarterPrice() of three", 1002.0 / 7, () -> plan.quarterPrice());
        plan.take(0);
        plan.take(2);
        due("quarterPrice() of the greatest", 999.0, () -> plan.quarterPrice());
        plan.take(1);
        due("quarterPrice() when all are taken", none, () -> plan.quarterPrice());
    }

    // ---- promises 56 and 57

    private void described(FlatPlan plan, int page, String due) {
        due("describe(" + page + ")", due.length(), () -> plan.describe(page));
        check.same("the description of " + page, Check.described(plan, page), due);
        due("the byte behind it", -1, () -> plan.describedByte(due.length()));
    }

    private void describe() {
        told("Promise 56", "then, if quarters are left, a plus sign and their number, with a space in front of it if something stands"
                + " before.");
        FlatPlan plan = loaded("plan 1 16;" + AD.repeat(40) + STORY.repeat(10) + "standby 1;".repeat(6) + "standby 4;standby 2;");
        described(plan, 1, "+4");
        plan.put(0, 1);
        described(plan, 1, "a0 +3");
        plan.put(39, 1);
        described(plan, 1, "a0 a39 +2");
        plan.put(9, 1);
        described(plan, 1, "a0 a9 a39 +1");
        plan.put(10, 1);
        described(plan, 1, "a0 a9 a10 a39");
        plan.use(7, 3);
        described(plan, 3, "b7 +2");
        told("Promise 56", "Describes a page as a text: s and the number of the story on it, or a and the number of each ad in ascending order, then b and the"
                + " number of each standby in ascending order, with one space between two of these;");
        plan.lay(0, 2);
        described(plan, 2, "s0");
        plan.lay(9, 16);
        described(plan, 16, "s9");
        plan.use(6, 4);
        described(plan, 4, "b6");
        plan.use(5, 5);
        plan.use(0, 5);
        plan.put(20, 5);
        described(plan, 5, "a20 b0 b5 +1");
        plan.put(11, 5);
        described(plan, 5, "a11 a20 b0 b5");
        plan.put(11, 6);
        plan.put(12, 6);
        plan.put(38, 6);
        plan.put(19, 6);
        described(plan, 6, "a11 a12 a19 a38");
        plan.use(1, 7);
        plan.use(2, 7);
        plan.use(3, 7);
        plan.use(4, 7);
        described(plan, 7, "b1 b2 b3 b4");
        told("Promise 56", "Returns the number of bytes.");
        due("describe(1)", 13, () -> plan.describe(1));
        due("describe(2)", 2, () -> plan.describe(2));
        due("describe(15)", 2, () -> plan.describe(15));
        due("describe(6)", 15, () -> plan.describe(6));
    }

    private void describeThrows() {
        told("Promise 56", "Throws `IndexOutOfBoundsException` if there is no such page");
        Supplier<FlatPlan> made = () -> {
            FlatPlan plan = loaded("plan 1 4;" + AD + "put 0 1;");
            plan.describe(1);
            return plan;
        };
        for (int page : new int[] {LEAST, -1, 0, 5, 16, 64, 65, GREATEST}) {
            refused(made, "describe(" + page + ")", NO_INDEX, p -> p.describe(page));
        }
        told("Promise 56", "`page`: 1 to N");
        FlatPlan large = loaded("plan 4 16;" + AD + "put 0 64;");
        described(large, 1, "+4");
        described(large, 64, "a0 +3");
        due("describe(65)", NO_INDEX, () -> large.describe(65));
    }

    private void describedByte() {
        told("Promise 57", "NONE if there is no such byte.");
        FlatPlan plan = loaded("plan 1 4;" + AD + "put 0 1;");
        for (int index : new int[] {LEAST, -1, 0, 1, GREATEST}) {
            due("describedByte(" + index + ") of none", -1, () -> plan.describedByte(index));
        }
        told("Promise 57", "`index`: from 0");
        plan.describe(1);
        inOrder("describedByte", new int[] {'a', '0', ' ', '+', '3', -1, -1}, index -> plan.describedByte(index));
        told("Promise 57", "Returns the byte; NONE if there is no such byte.");
        for (int index : new int[] {LEAST, -1, 15, 16, 20, GREATEST}) {
            due("describedByte(" + index + ")", -1, () -> plan.describedByte(index));
        }
        told("Promise 57", "Returns a byte of the latest description.");
        plan.describe(2);
        inOrder("describedByte of a shorter one", new int[] {'+', '4', -1, -1, -1}, index -> plan.describedByte(index));
        plan.put(0, 2);
        due("describedByte(1) as it was described", (int) '4', () -> plan.describedByte(1));
        plan.describe(2);
        due("describedByte(4) described again", (int) '3', () -> plan.describedByte(4));
    }

    // ---- promise 58

    private static int digestOf(int... parts) {
        int digest = 1;
        for (int part : parts) {
            digest = 31 * digest + part;
        }
        return digest;
    }

    private void digest() {
        told("Promise 58", "Returns a digest: begin with 1; for each ad in ascending order take 31 times the digest plus its page (0 if it is not placed),"
                + " likewise for each story with its first page, then for each standby, then for each form with 1 if it is printed,"
                + " otherwise 0");
        due("digest() without items", 961, () -> new FlatPlan().digest());
        due("digest() of eight forms", digestOf(0, 0, 0, 0, 0, 0, 0, 0), () -> loaded("plan 4 4;").digest());
        FlatPlan plan = loaded("plan 1 4;" + AD + AD + "story 2 0 0 0;" + STORY + "standby 1;standby 1;");
        due("digest() when nothing is placed", digestOf(0, 0, 0, 0, 0, 0, 0, 0), () -> plan.digest());
        plan.put(1, 4);
        plan.lay(0, 2);
        plan.use(0, 1);
        due("digest()", digestOf(0, 4, 2, 0, 1, 0, 0, 0), () -> plan.digest());
        plan.print(1);
        due("digest() with a printed form", digestOf(0, 4, 2, 0, 1, 0, 0, 1), () -> plan.digest());
        plan.undo();
        due("digest() after undo", digestOf(0, 4, 2, 0, 1, 0, 0, 0), () -> plan.digest());
    }

    private void digestWraps() {
        told("Promise 58", "(in int arithmetic, overflow wraps).");
        // 31^6 is less than 2^31, 31^7 is not; 64 parts wrap many times.
        due("digest() of 6 parts", 887503681, () -> loaded("plan 1 4;" + AD.repeat(4)).digest());
        due("digest() of 7 parts", 1742810335, () -> loaded("plan 1 4;" + AD.repeat(5)).digest());
        due("digest() of 8 parts", -1807454463, () -> loaded("plan 1 4;" + AD.repeat(6)).digest());
        int[] parts = new int[66];
        StringBuilder text = new StringBuilder("plan 4 16;" + AD.repeat(40) + STORY.repeat(10) + "standby 1;".repeat(8));
        for (int ad = 0; ad < 40; ad++) {
            parts[ad] = 64 - ad;
            text.append("put ").append(ad).append(" ").append(64 - ad).append(";");
        }
        for (int story = 0; story < 10; story++) {
            parts[40 + story] = 10 - story;
            text.append("lay ").append(story).append(" ").append(10 - story).append(";");
        }
        FlatPlan all = loaded(text.toString());
        for (int standby = 0; standby < 8; standby++) {
            parts[50 + standby] = 64 - standby;
            all.use(standby, 64 - standby);
        }
        all.print(7);
        parts[65] = 1;
        due("digest() of 66 parts", digestOf(parts), () -> all.digest());
    }
}
