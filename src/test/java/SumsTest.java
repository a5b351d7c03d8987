/** Promises 42 to 48 and 54 to 58: sums, shares, descriptions and the digest. */
public final class SumsTest {
    private static final Check check = new Check("SumsTest");
    private static final int[] NO_GROUPS = {-1, 10, Integer.MIN_VALUE, Integer.MAX_VALUE};

    public static void main(String[] args) {
        nearRivals();
        groups();
        revenues();
        lost();
        endangered();
        fill();
        quarterPrice();
        descriptions();
        describedBytes();
        digest();
        check.end();
    }

    private static void nearRivals() {
        FlatPlan plan = check.loaded("plan 1 16;ad 1 3 0 0 1 0;ad 1 3 0 0 1 0;ad 1 3 0 0 1 0;ad 1 4 0 0 1 0;ad 1 0 0 0 1 0;"
                + "ad 1 0 0 0 1 0;ad 1 3 0 0 1 0;ad 1 4 0 0 1 0;put 0 3;put 1 4;put 2 6;put 3 4;put 4 8;put 5 10;");
        check.due("nearRivals()", 2, () -> plan.nearRivals());
        plan.put(6, 9);
        check.due("nearRivals() of four", 3, () -> plan.nearRivals());
        plan.put(7, 1);
        check.due("nearRivals() two spreads apart", 3, () -> plan.nearRivals());
        plan.put(7, 2);
        check.due("nearRivals()", 4, () -> plan.nearRivals());
        plan.take(0);
        check.due("nearRivals() with one taken", 3, () -> plan.nearRivals());
        // An ad that is not placed is not near page 2.
        FlatPlan free = check.loaded("ad 1 1 0 0 1 0;ad 1 1 0 0 1 0;put 0 2;");
        check.due("nearRivals() of one placed", 0, () -> free.nearRivals());
        free.put(1, 1);
        check.due("nearRivals() of pages 1 and 2", 1, () -> free.nearRivals());
        free.exchange(1, 2);
        check.due("nearRivals() the other way", 1, () -> free.nearRivals());
        free.take(0);
        check.due("nearRivals() of the other one", 0, () -> free.nearRivals());
    }

    private static void groups() {
        FlatPlan plan = check.loaded("plan 1 8;ad 1 0 0 0 10 0;ad 1 0 0 0 20 0;ad 1 0 0 0 40 0;ad 1 9 0 0 80 0;ad 1 9 0 0 160 0;"
                + "ad 1 9 0 0 320 0;put 0 2;put 1 3;put 2 8;put 3 1;put 4 8;");
        check.due("groupOn(0, 1)", 2, () -> plan.groupOn(0, 1));
        check.due("groupOn(0, 4)", 1, () -> plan.groupOn(0, 4));
        check.due("groupOn(0, 0)", 0, () -> plan.groupOn(0, 0));
        check.due("groupOn(9, 0)", 1, () -> plan.groupOn(9, 0));
        check.due("groupOn(9, 4)", 1, () -> plan.groupOn(9, 4));
        check.due("groupOn(5, 1)", 0, () -> plan.groupOn(5, 1));
        check.due("spreadsOf(0)", 2, () -> plan.spreadsOf(0));
        check.due("spreadsOf(9)", 2, () -> plan.spreadsOf(9));
        check.due("spreadsOf(5)", 0, () -> plan.spreadsOf(5));
        check.due("revenueOfGroup(0)", 70, () -> plan.revenueOfGroup(0));
        check.due("revenueOfGroup(9)", 240, () -> plan.revenueOfGroup(9));
        check.due("revenueOfGroup(5)", 0, () -> plan.revenueOfGroup(5));
        check.argument("groupOn(0, 5)", () -> plan.groupOn(0, 5));
        check.argument("groupOn(0, -1)", () -> plan.groupOn(0, -1));
        check.argument("groupOn(0, greatest)", () -> plan.groupOn(0, Integer.MAX_VALUE));
        for (int group : NO_GROUPS) {
            check.argument("groupOn(" + group + ", 0)", () -> plan.groupOn(group, 0));
            check.argument("spreadsOf(" + group + ")", () -> plan.spreadsOf(group));
            check.argument("revenueOfGroup(" + group + ")", () -> plan.revenueOfGroup(group));
        }
        plan.take(3);
        check.due("groupOn(9, 0) with none", 0, () -> plan.groupOn(9, 0));
        check.due("spreadsOf(9)", 1, () -> plan.spreadsOf(9));
        FlatPlan large = check.loaded("plan 4 16;ad 1 9 0 0 1 0;put 0 64;");
        check.due("groupOn(9, 32)", 1, () -> large.groupOn(9, 32));
        check.argument("groupOn(9, 33)", () -> large.groupOn(9, 33));
        check.due("spreadsOf(9)", 1, () -> large.spreadsOf(9));
    }

    private static void revenues() {
        FlatPlan plan = check.loaded("plan 2 4;ad 1 0 0 0 10 0;ad 1 0 0 0 20 0;ad 1 0 0 0 40 0;ad 1 0 0 0 80 0;put 0 1;put 1 4;"
                + "put 2 7;");
        check.due("revenue()", 70, () -> plan.revenue());
        check.due("revenueOf(0)", 30, () -> plan.revenueOf(0));
        check.due("revenueOf(1)", 0, () -> plan.revenueOf(1));
        check.due("revenueOf(3)", 40, () -> plan.revenueOf(3));
        check.index("revenueOf(4)", () -> plan.revenueOf(4));
        check.index("revenueOf(-1)", () -> plan.revenueOf(-1));
        plan.setPrice(0, 999);
        check.due("revenue() at a new price", 1059, () -> plan.revenue());
        plan.print(0);
        check.due("revenueOf(0) printed", 1019, () -> plan.revenueOf(0));
        plan.take(2);
        check.due("revenueOf(3) of none", 0, () -> plan.revenueOf(3));
        check.due("revenue() of a new plan", 0, () -> new FlatPlan().revenue());
    }

    private static void lost() {
        FlatPlan plan = check.loaded("plan 1 8;close 0 2;ad 1 0 0 0 30 9;ad 1 0 0 0 7 9;ad 1 0 0 0 1 0;put 0 1;put 1 2;put 2 1;");
        plan.take(2);
        check.due("lost() by no closing", 0, () -> plan.lost());
        plan.pass(2);
        check.due("lost()", 30, () -> plan.lost());
        plan.setPrice(0, 100);
        check.due("lost() is what the price was", 30, () -> plan.lost());
        plan.put(0, 3);
        plan.setClosing(1, 2);
        check.due("lost() twice", 137, () -> plan.lost());
        plan.undo();
        check.due("lost() after undo", 30, () -> plan.lost());
        Check.append(plan, "bad");
        plan.load();
        check.due("lost() after a failed load", 30, () -> plan.lost());
        Check.append(plan, "");
        plan.load();
        check.due("lost() after load", 0, () -> plan.lost());
    }

    private static void endangered() {
        FlatPlan plan = check.loaded("plan 2 4;close 0 5;close 1 8;ad 1 0 0 0 1 5;ad 1 0 0 0 2 6;ad 1 0 0 0 4 8;ad 1 0 0 0 8 9;"
                + "ad 1 0 0 0 16 99;ad 1 0 0 0 32 99;put 0 1;put 1 4;put 2 2;put 3 3;put 4 8;");
        check.due("endangered()", 10, () -> plan.endangered());
        plan.pass(4);
        check.due("endangered() later", 10, () -> plan.endangered());
        plan.pass(1);
        check.due("endangered() when one is closed", 8, () -> plan.endangered());
        plan.setClosing(3, 9999);
        check.due("endangered() of another form", 8, () -> plan.endangered());
        plan.setClosing(2, 98);
        check.due("endangered() of two", 24, () -> plan.endangered());
        plan.setClosing(2, 99);
        check.due("endangered() of one", 8, () -> plan.endangered());
        check.due("endangered() moved nothing", 4, () -> plan.count(7));
        plan.pass(3);
        check.due("endangered() of none", 0, () -> plan.endangered());
        check.due("lost()", 10, () -> plan.lost());
        FlatPlan one = check.loaded("close 0 5;ad 1 0 0 0 3 6;put 0 1;");
        check.due("endangered() of the first ad", 3, () -> one.endangered());
    }

    private static void fill() {
        FlatPlan plan = check.loaded("plan 1 4;ad 1 0 0 0 1 0;standby 2;story 1 0 0 0;");
        check.due("fill() of none", 0.0, () -> plan.fill());
        plan.put(0, 1);
        check.due("fill() of an ad", 1.0 / 16, () -> plan.fill());
        plan.use(0, 1);
        check.due("fill() with a standby", 3.0 / 16, () -> plan.fill());
        plan.lay(0, 2);
        check.due("fill() with a story", 7.0 / 16, () -> plan.fill());
        FlatPlan third = check.loaded("plan 3 16;ad 1 0 0 0 1 0;put 0 48;");
        check.due("fill() of one of 192", 1 / 192.0, () -> third.fill());
        FlatPlan full = check.loaded("plan 1 4;story 4 0 0 0;lay 0 1;");
        check.due("fill() of all", 1.0, () -> full.fill());
    }

    private static void quarterPrice() {
        FlatPlan plan = check.loaded("ad 1 0 0 0 10 0;ad 2 0 0 0 15 0;ad 4 0 0 0 100 0;standby 4;");
        check.due("quarterPrice() of none", "throws.ArithmeticException", () -> plan.quarterPrice());
        plan.use(0, 4);
        check.due("quarterPrice() of a standby", "throws.ArithmeticException", () -> plan.quarterPrice());
        plan.put(0, 1);
        check.due("quarterPrice()", 10.0, () -> plan.quarterPrice());
        plan.put(1, 1);
        check.due("quarterPrice() of two", 25 / 3.0, () -> plan.quarterPrice());
        plan.put(2, 2);
        check.due("quarterPrice() of three", 125 / 7.0, () -> plan.quarterPrice());
    }

    private static void described(FlatPlan plan, int page, String due) {
        check.due("describe(" + page + ")", due.length(), () -> plan.describe(page));
        check.due("description of " + page, due, () -> Check.described(plan, page));
        check.due("byte behind", -1, () -> plan.describedByte(due.length()));
    }

    private static void descriptions() {
        FlatPlan plan = check.loaded("plan 1 8;" + "ad 1 0 0 0 1 0;".repeat(40) + "story 1 0 0 0;".repeat(10)
                + "standby 1;".repeat(7) + "standby 4;put 39 1;put 9 1;put 10 1;put 38 1;lay 9 2;lay 0 3;");
        described(plan, 1, "a9 a10 a38 a39");
        described(plan, 2, "s9");
        described(plan, 3, "s0");
        described(plan, 4, "+4");
        plan.put(0, 4);
        described(plan, 4, "a0 +3");
        plan.use(6, 4);
        plan.use(0, 4);
        described(plan, 4, "a0 b0 b6 +1");
        plan.put(20, 4);
        described(plan, 4, "a0 a20 b0 b6");
        plan.use(7, 5);
        described(plan, 5, "b7");
        plan.use(1, 6);
        described(plan, 6, "b1 +3");
        check.index("describe(0)", () -> plan.describe(0));
        check.index("describe(9)", () -> plan.describe(9));
        check.index("describe(-1)", () -> plan.describe(-1));
    }

    private static void describedBytes() {
        FlatPlan plan = check.loaded("ad 1 0 0 0 1 0;put 0 1;");
        check.due("describedByte(0) of none", -1, () -> plan.describedByte(0));
        plan.describe(1);
        plan.take(0);
        check.index("describe(17)", () -> plan.describe(17));
        int[] due = {'a', '0', ' ', '+', '3', -1};
        for (int i = 0; i < due.length; i++) {
            int one = i;
            check.due("describedByte(" + i + ")", due[i], () -> plan.describedByte(one));
        }
        check.due("describedByte(-1)", -1, () -> plan.describedByte(-1));
        check.due("describedByte(least)", -1, () -> plan.describedByte(Integer.MIN_VALUE));
        check.due("describedByte(greatest)", -1, () -> plan.describedByte(Integer.MAX_VALUE));
        plan.describe(2);
        check.due("describedByte(0) of the latest", (int) '+', () -> plan.describedByte(0));
        check.due("describedByte(2) of the latest", -1, () -> plan.describedByte(2));
    }

    private static void digest() {
        FlatPlan plan = check.loaded("plan 1 4;ad 1 0 0 0 1 0;ad 1 0 0 0 1 0;story 2 0 0 0;standby 1;put 1 4;lay 0 2;");
        plan.use(0, 1);
        plan.print(1);
        int due = 1;
        for (int part : new int[] {0, 4, 2, 1, 0, 1}) {
            due = 31 * due + part;
        }
        check.due("digest()", due, () -> plan.digest());
        FlatPlan large = check.loaded("plan 4 4;" + "ad 1 0 0 0 1 0;".repeat(40));
        int wrapped = 1;
        for (int i = 0; i < 48; i++) {
            wrapped *= 31;
        }
        int end = wrapped;
        check.due("digest() of 48 parts", end, () -> large.digest());
    }
}
