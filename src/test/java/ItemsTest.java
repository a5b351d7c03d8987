/** Promises 7 to 19: the properties of items, pages and forms, and the reasons. */
public final class ItemsTest {
    private static final Check check = new Check("ItemsTest");
    private static final int[] FAR = {-1, Integer.MIN_VALUE, Integer.MAX_VALUE};

    public static void main(String[] args) {
        counts();
        addAd();
        setAd();
        setPrice();
        items();
        pages();
        forms();
        formsOfSmallSignatures();
        reasons();
        storyReasons();
        check.end();
    }

    private static void counts() {
        FlatPlan plan = check.loaded("plan 3 8;color 1;color 5;ad 1 0 0 0 1 0;ad 2 0 0 0 1 0;ad 1 0 0 0 1 0;"
                + "story 2 0 0 0;story 1 0 0 0;standby 1;standby 2;standby 4;standby 1;put 0 1;put 1 1;lay 1 3;");
        plan.use(0, 2);
        plan.use(1, 2);
        plan.use(3, 4);
        plan.pass(7);
        plan.print(0);
        plan.print(4);
        plan.print(5);
        plan.print(3);
        int[] due = {24, 3, 6, 3, 2, 4, 7, 2, 1, 3, 4, 2};
        for (int what = 0; what < due.length; what++) {
            int one = what;
            check.due("count(" + one + ")", due[one], () -> plan.count(one));
        }
        check.due("count(12)", -1, () -> plan.count(12));
        for (int far : FAR) {
            check.due("count(" + far + ")", -1, () -> plan.count(far));
        }
    }

    private static void addAd() {
        FlatPlan plan = new FlatPlan();
        int[][] wrong = {{0, 0, 1, 0}, {3, 0, 1, 0}, {5, 0, 1, 0}, {-1, 0, 1, 0}, {1, -1, 1, 0}, {1, 10, 1, 0},
            {1, 0, 0, 0}, {1, 0, 1000, 0}, {1, 0, 1, -1}, {1, 0, 1, 10000}};
        for (int[] w : wrong) {
            check.argument("addAd(" + w[0] + " ..)", () -> plan.addAd(w[0], w[1], w[2], w[3]));
        }
        check.due("undoCount()", 0, () -> plan.undoCount());
        int[][] right = {{1, 0, 1, 0}, {2, 9, 999, 9999}, {4, 5, 500, 17}};
        for (int i = 0; i < 40; i++) {
            int one = i;
            int[] r = right[i % 3];
            check.due("addAd " + i, i, () -> plan.addAd(r[0], r[1], r[2], r[3]));
            int[] due = {r[0], r[1], 0, 0, r[2], r[3], -1, r[3] > 0 ? 1 : 0};
            for (int what = 0; what < 8; what++) {
                int property = what;
                check.due("ad(" + i + ", " + what + ")", due[what], () -> plan.ad(one, property));
            }
        }
        check.due("undoCount()", 20, () -> plan.undoCount());
        check.due("a 41st", -2, () -> plan.addAd(1, 0, 1, 0));
        check.argument("a wrong 41st", () -> plan.addAd(3, 0, 1, 0));
        check.due("count(3)", 40, () -> plan.count(3));
        check.due("undo()", true, () -> plan.undo());
        check.due("the 40th again", 39, () -> plan.addAd(1, 0, 1, 0));
    }

    private static void setAd() {
        FlatPlan plan = check.loaded("ad 1 0 0 0 5 0;ad 1 0 0 0 5 0;put 1 1;");
        check.index("setAd(2 ..)", () -> plan.setAd(2, true, 3));
        check.index("setAd(-1 ..)", () -> plan.setAd(-1, true, 0));
        check.argument("setAd side 3", () -> plan.setAd(0, true, 3));
        check.argument("setAd side -1", () -> plan.setAd(0, true, -1));
        check.argument("setAd placed, side 3", () -> plan.setAd(1, true, 3));
        check.due("setAd of a placed one", false, () -> plan.setAd(1, false, 0));
        check.due("ad(1, 2)", 0, () -> plan.ad(1, 2));
        check.due("undoCount()", 0, () -> plan.undoCount());
        check.due("setAd", true, () -> plan.setAd(0, true, 2));
        check.due("ad(0, 2)", 1, () -> plan.ad(0, 2));
        check.due("ad(0, 3)", 2, () -> plan.ad(0, 3));
        check.due("setAd as it is", true, () -> plan.setAd(0, true, 2));
        check.due("undoCount()", 2, () -> plan.undoCount());
        check.due("setAd back", true, () -> plan.setAd(0, false, 1));
        check.due("ad(0, 2)", 0, () -> plan.ad(0, 2));
        check.due("ad(0, 3)", 1, () -> plan.ad(0, 3));
        plan.undo();
        check.due("ad(0, 2) after undo", 1, () -> plan.ad(0, 2));
        check.due("ad(0, 3) after undo", 2, () -> plan.ad(0, 3));
    }

    private static void setPrice() {
        FlatPlan plan = check.loaded("ad 1 0 0 0 5 0;put 0 1;");
        check.index("setPrice(1 ..)", () -> plan.setPrice(1, 0));
        check.index("setPrice(-1 ..)", () -> plan.setPrice(-1, 5));
        check.argument("setPrice 0", () -> plan.setPrice(0, 0));
        check.argument("setPrice 1000", () -> plan.setPrice(0, 1000));
        plan.print(0);
        check.due("setPrice 999", 5, () -> plan.setPrice(0, 999));
        check.due("setPrice 1", 999, () -> plan.setPrice(0, 1));
        check.due("ad(0, 4)", 1, () -> plan.ad(0, 4));
        check.due("setPrice as it is", 1, () -> plan.setPrice(0, 1));
        check.due("undoCount()", 4, () -> plan.undoCount());
    }

    private static void items() {
        FlatPlan plan = check.loaded("color 0;color 1;ad 2 7 1 2 33 4;story 3 1 1 5;standby 2;story 1 0 0 0;"
                + "put 0 15;lay 0 2;");
        plan.use(0, 15);
        plan.pass(4);
        int[] ad = {2, 7, 1, 2, 33, 4, 15, 0};
        for (int what = 0; what < 8; what++) {
            int one = what;
            check.due("ad(0, " + what + ")", ad[what], () -> plan.ad(0, one));
        }
        int[] story = {3, 1, 1, 5, 2, 1};
        for (int what = 0; what < 6; what++) {
            int one = what;
            check.due("story(0, " + what + ")", story[what], () -> plan.story(0, one));
        }
        check.due("story(1, 4)", -1, () -> plan.story(1, 4));
        check.due("story(1, 5)", 0, () -> plan.story(1, 5));
        check.due("standby(0, 0)", 2, () -> plan.standby(0, 0));
        check.due("standby(0, 1)", 15, () -> plan.standby(0, 1));
        check.due("ad(0, 8)", -1, () -> plan.ad(0, 8));
        check.due("story(0, 6)", -1, () -> plan.story(0, 6));
        check.due("standby(0, 2)", -1, () -> plan.standby(0, 2));
        for (int far : FAR) {
            check.due("ad(0, " + far + ")", -1, () -> plan.ad(0, far));
            check.due("story(0, " + far + ")", -1, () -> plan.story(0, far));
            check.due("standby(0, " + far + ")", -1, () -> plan.standby(0, far));
            check.index("ad(" + far + ", 0)", () -> plan.ad(far, 0));
            check.index("story(" + far + ", 0)", () -> plan.story(far, 0));
            check.index("standby(" + far + ", 0)", () -> plan.standby(far, 0));
        }
        check.index("ad(1, 9)", () -> plan.ad(1, 9));
        check.index("story(2, 0)", () -> plan.story(2, 0));
        check.index("standby(1, 0)", () -> plan.standby(1, 0));
        plan.pass(1);
        check.due("story(0, 5) when it is ready", 0, () -> plan.story(0, 5));
        plan.undo();
        plan.undo();
        check.due("ad(0, 7) before", 1, () -> plan.ad(0, 7));
        check.due("standby is used", 15, () -> plan.standby(0, 1));
        plan.undo();
        check.due("standby is not used", -1, () -> plan.standby(0, 1));
    }

    private static void pages() {
        FlatPlan plan = check.loaded("plan 2 8;ad 1 0 0 0 1 0;ad 2 0 0 0 1 0;ad 1 0 0 0 1 0;standby 1;standby 1;"
                + "story 2 0 0 0;put 2 9;put 0 9;put 1 3;lay 0 6;");
        plan.use(1, 9);
        plan.use(0, 3);
        int[][] due = {{1, 0, 0, 0, 4, 0, -1, 0}, {3, 1, 0, 1, 1, 1, -1, 1}, {6, 3, 0, 1, 0, 0, 0, 0},
            {7, 3, 0, 1, 0, 0, 0, 0}, {8, 4, 0, 0, 4, 0, -1, 0}, {9, 4, 1, 2, 1, 2, -1, 1}, {16, 8, 1, 2, 4, 0, -1, 0}};
        for (int[] row : due) {
            for (int what = 0; what < 7; what++) {
                int one = what;
                check.due("page(" + row[0] + ", " + what + ")", row[what + 1], () -> plan.page(row[0], one));
            }
            check.due("page(" + row[0] + ", 7)", -1, () -> plan.page(row[0], 7));
            check.due("page(" + row[0] + ", -1)", -1, () -> plan.page(row[0], -1));
        }
        check.due("adOn(9, 0)", 0, () -> plan.adOn(9, 0));
        check.due("adOn(9, 1)", 2, () -> plan.adOn(9, 1));
        check.due("adOn(9, 2)", -1, () -> plan.adOn(9, 2));
        check.due("adOn(6, 0)", -1, () -> plan.adOn(6, 0));
        for (int far : FAR) {
            check.index("page(" + far + ", 0)", () -> plan.page(far, 0));
            check.index("adOn(" + far + ", 0)", () -> plan.adOn(far, 0));
            check.due("adOn(9, " + far + ")", -1, () -> plan.adOn(9, far));
        }
        check.index("page(0, 0)", () -> plan.page(0, 0));
        check.index("page(17, 0)", () -> plan.page(17, 9));
        check.index("adOn(0, 0)", () -> plan.adOn(0, 0));
        check.index("adOn(17, 0)", () -> plan.adOn(17, 0));
    }

    private static void forms() {
        FlatPlan plan = check.loaded("plan 2 8;color 2;close 2 7;close 3 9;ad 1 0 1 0 1 5;ad 2 0 0 0 1 0;standby 1;"
                + "story 5 0 0 6;story 2 1 0 0;close 2 8;put 0 9;put 1 9;lay 0 10;");
        int[][] due = {{0, 0, 0, -1, 4, 16, 0, 0, 0}, {1, 0, 0, -1, 4, 16, 0, 0, 0}, {2, 1, 0, 8, 4, 5, 2, 2, 1},
            {3, 0, 0, 9, 4, 4, 0, 1, 0}};
        for (int[] row : due) {
            for (int what = 0; what < 8; what++) {
                int one = what;
                check.due("form(" + row[0] + ", " + what + ")", row[what + 1], () -> plan.form(row[0], one));
            }
            check.due("form(" + row[0] + ", 8)", -1, () -> plan.form(row[0], 8));
            check.due("form(" + row[0] + ", -1)", -1, () -> plan.form(row[0], -1));
        }
        plan.pass(8);
        check.due("form(2, 1) printed", 1, () -> plan.form(2, 1));
        check.due("form(2, 2) printed", 8, () -> plan.form(2, 2));
        check.due("form(2, 6) printed", 0, () -> plan.form(2, 6));
        plan.setColor(0, true);
        plan.setColor(1, true);
        check.due("lay(1, 2)", 0, () -> plan.lay(1, 2));
        check.due("form(0, 7) with a story", 0, () -> plan.form(0, 7));
        check.due("form(1, 7) with a story", 1, () -> plan.form(1, 7));
        int[] pages = {9, 12, 13, 16, -1};
        int[] inner = {2, 3, 6, 7, -1};
        for (int i = 0; i < pages.length; i++) {
            int one = i;
            check.due("pageOf(2, " + i + ")", pages[i], () -> plan.pageOf(2, one));
            check.due("pageOf(1, " + i + ")", inner[i], () -> plan.pageOf(1, one));
            check.due("pageOf(0, " + i + ")", pages[i] < 0 ? -1 : pages[i] - 8, () -> plan.pageOf(0, one));
        }
        for (int far : FAR) {
            check.due("pageOf(2, " + far + ")", -1, () -> plan.pageOf(2, far));
            check.index("pageOf(" + far + ", 0)", () -> plan.pageOf(far, 0));
            check.index("form(" + far + ", 0)", () -> plan.form(far, 0));
        }
        check.index("form(4, 0)", () -> plan.form(4, 0));
        check.index("pageOf(4, 0)", () -> plan.pageOf(4, 0));
    }

    private static void formsOfSmallSignatures() {
        FlatPlan plan = check.loaded("plan 4 4;");
        int[] form = {0, 1, 1, 0, 2, 3, 3, 2, 4, 5, 5, 4, 6, 7, 7, 6};
        for (int page = 1; page <= 16; page++) {
            int one = page;
            check.due("page(" + page + ", 2)", form[page - 1], () -> plan.page(one, 2));
            check.due("page(" + page + ", 1)", (page - 1) / 4, () -> plan.page(one, 1));
        }
        check.due("form(7, 3)", 2, () -> plan.form(7, 3));
        check.due("pageOf(7, 1)", 15, () -> plan.pageOf(7, 1));
        FlatPlan large = check.loaded("plan 4 16;");
        check.due("page(64, 2)", 6, () -> large.page(64, 2));
        check.due("page(64, 0)", 32, () -> large.page(64, 0));
        check.due("form(6, 3)", 8, () -> large.form(6, 3));
        check.due("pageOf(6, 7)", 64, () -> large.pageOf(6, 7));
    }

    private static void reasons() {
        // 0: plain; 1: color; 2: right, group 2; 3: left, group 2; 4: four quarters, group 2, color, left
        FlatPlan plan = check.loaded("plan 1 8;color 1;ad 1 0 0 0 1 0;ad 1 0 1 0 1 0;ad 2 2 0 2 1 0;ad 2 2 0 1 1 0;"
                + "ad 4 2 1 1 1 0;story 1 0 0 0;standby 4;put 2 5;lay 0 8;");
        int[][] due = {{0, 0, 1}, {0, 9, 1}, {0, -1, 1}, {0, 1, 0}, {0, 8, 3}, {1, 1, 4}, {1, 2, 0}, {1, 8, 3}, {2, 5, 0},
            {2, 3, 0}, {2, 2, 5}, {3, 4, 6}, {3, 5, 5}, {3, 2, 0}, {4, 5, 3}, {4, 4, 4}, {4, 1, 4}, {4, 3, 5}, {4, 6, 0},
            {4, 2, 0}, {0, Integer.MAX_VALUE, 1}, {0, Integer.MIN_VALUE, 1}};
        for (int[] row : due) {
            check.due("reason(" + row[0] + ", " + row[1] + ")", row[2], () -> plan.reason(row[0], row[1]));
        }
        plan.put(3, 6);
        check.due("reason(2, 7) beside a rival", 6, () -> plan.reason(2, 7));
        check.due("reason(2, 5) where it stands", 0, () -> plan.reason(2, 5));
        check.due("use", 0, () -> plan.use(0, 1));
        check.due("reason(0, 1) of a full page", 3, () -> plan.reason(0, 1));
        plan.print(0);
        check.due("reason(0, 8) of a printed page", 2, () -> plan.reason(0, 8));
        check.due("reason(2, 3)", 0, () -> plan.reason(2, 3));
        check.due("reason(2, 5) of its printed page", 2, () -> plan.reason(2, 5));
        check.index("reason(5, 1)", () -> plan.reason(5, 1));
        check.index("reason(-1, 1)", () -> plan.reason(-1, 1));
        // Page 1 stands alone: an ad that is not placed is no rival there.
        FlatPlan alone = check.loaded("ad 1 3 0 0 1 0;ad 1 3 0 0 1 0;");
        check.due("reason(0, 1)", 0, () -> alone.reason(0, 1));
        alone.put(0, 1);
        check.due("reason(1, 1)", 6, () -> alone.reason(1, 1));
        check.due("reason(1, 2)", 0, () -> alone.reason(1, 2));
    }

    private static void storyReasons() {
        FlatPlan plan = check.loaded("plan 2 4;color 1;color 2;story 3 0 1 0;story 2 1 0 0;story 2 0 2 0;"
                + "ad 1 0 0 0 1 0;standby 1;put 0 4;lay 2 7;");
        int[][] due = {{0, 0, 1}, {0, -1, 1}, {0, 7, 1}, {0, 9, 1}, {0, Integer.MAX_VALUE, 1}, {0, Integer.MIN_VALUE, 1},
            {0, 6, 3}, {0, 1, 5}, {0, 2, 3}, {1, 1, 4}, {1, 2, 0}, {1, 3, 3}, {1, 5, 4}, {2, 7, 0}, {2, 6, 5}, {2, 8, 1},
            {2, 1, 0}, {2, 5, 0}, {0, 5, 3}};
        for (int[] row : due) {
            check.due("storyReason(" + row[0] + ", " + row[1] + ")", row[2], () -> plan.storyReason(row[0], row[1]));
        }
        plan.use(0, 2);
        check.due("storyReason(1, 2) beside a standby", 3, () -> plan.storyReason(1, 2));
        plan.print(0);
        check.due("storyReason(2, 3) into a printed page", 2, () -> plan.storyReason(2, 3));
        check.due("storyReason(2, 1) from a printed page", 2, () -> plan.storyReason(2, 1));
        check.due("storyReason(2, 5)", 0, () -> plan.storyReason(2, 5));
        check.index("storyReason(3, 1)", () -> plan.storyReason(3, 1));
        check.index("storyReason(-1, 1)", () -> plan.storyReason(-1, 1));
    }
}
