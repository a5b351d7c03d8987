/** Promises 20 to 26: items are put, laid, taken, used, cleared and exchanged. */
public final class PlacingTest {
    private static final Check check = new Check("PlacingTest");

    public static void main(String[] args) {
        put();
        putFromPrinted();
        lay();
        layFromPrinted();
        take();
        takeStory();
        use();
        clear();
        exchange();
        exchangeReasons();
        exchangeOfOnePage();
        exchangeOfRivals();
        check.end();
    }

    private static void changes(FlatPlan plan, int due) {
        check.due("undoCount()", due, () -> plan.undoCount());
    }

    private static void put() {
        FlatPlan plan = check.loaded("plan 1 8;ad 2 1 0 0 1 0;ad 2 1 0 0 1 0;ad 4 0 1 1 1 0;ad 1 0 0 0 1 0;");
        check.index("put(4, 1)", () -> plan.put(4, 1));
        check.index("put(-1, 99)", () -> plan.put(-1, 99));
        check.due("put(0, 0)", 1, () -> plan.put(0, 0));
        check.due("put(0, 9)", 1, () -> plan.put(0, 9));
        check.due("put(0, greatest)", 1, () -> plan.put(0, Integer.MAX_VALUE));
        check.due("put(2, 2)", 4, () -> plan.put(2, 2));
        plan.setAd(2, false, 1);
        check.due("put(2, 3)", 5, () -> plan.put(2, 3));
        changes(plan, 1);
        check.due("put(0, 2)", 0, () -> plan.put(0, 2));
        check.due("put(1, 3)", 6, () -> plan.put(1, 3));
        check.due("put(2, 2) beside an ad", 3, () -> plan.put(2, 2));
        check.due("put(3, 2)", 0, () -> plan.put(3, 2));
        check.due("put(0, 3)", 0, () -> plan.put(0, 3));
        check.due("the ad left page 2", 3, () -> plan.page(2, 3));
        check.due("the other ad stays", 3, () -> plan.adOn(2, 0));
        check.due("page 3", 2, () -> plan.page(3, 3));
        check.due("put(0, 3) again", 0, () -> plan.put(0, 3));
        changes(plan, 5);
        check.due("ad(0, 6)", 3, () -> plan.ad(0, 6));
    }

    private static void putFromPrinted() {
        FlatPlan plan = check.loaded("plan 1 8;ad 2 1 1 1 1 0;ad 4 0 0 0 1 0;ad 1 1 0 0 1 0;color 0;color 1;"
                + "put 0 4;put 1 3;");
        plan.print(0);
        check.due("put(0, 9)", 1, () -> plan.put(0, 9));
        check.due("put(0, 6) from a printed page", 2, () -> plan.put(0, 6));
        check.due("put(0, 3) from a printed page", 2, () -> plan.put(0, 3));
        check.due("put(2, 5) to a printed page", 2, () -> plan.put(2, 5));
        changes(plan, 1);
    }

    private static void lay() {
        FlatPlan plan = check.loaded("plan 1 8;story 2 0 1 0;story 3 0 0 0;story 1 1 0 0;ad 1 0 0 0 1 0;");
        check.index("lay(3, 1)", () -> plan.lay(3, 1));
        check.index("lay(-1, 1)", () -> plan.lay(-1, 1));
        check.due("lay(0, 8)", 1, () -> plan.lay(0, 8));
        check.due("lay(0, least)", 1, () -> plan.lay(0, Integer.MIN_VALUE));
        check.due("lay(0, 3)", 5, () -> plan.lay(0, 3));
        check.due("lay(2, 3)", 4, () -> plan.lay(2, 3));
        changes(plan, 0);
        check.due("lay(0, 2)", 0, () -> plan.lay(0, 2));
        check.due("page(3, 5)", 0, () -> plan.page(3, 5));
        check.due("lay(1, 3)", 3, () -> plan.lay(1, 3));
        check.due("lay(1, 4)", 0, () -> plan.lay(1, 4));
        check.due("lay(1, 5) over itself", 0, () -> plan.lay(1, 5));
        check.due("page(4, 5)", -1, () -> plan.page(4, 5));
        check.due("page(4, 3)", 4, () -> plan.page(4, 3));
        check.due("page(7, 5)", 1, () -> plan.page(7, 5));
        check.due("lay(1, 5) again", 0, () -> plan.lay(1, 5));
        changes(plan, 4);
        check.due("put(0, 8)", 0, () -> plan.put(0, 8));
        check.due("lay(1, 6) over an ad", 3, () -> plan.lay(1, 6));
    }

    private static void layFromPrinted() {
        FlatPlan plan = check.loaded("plan 1 8;story 2 0 1 0;story 1 0 0 0;lay 0 4;");
        plan.print(0);
        check.due("lay(0, 8)", 1, () -> plan.lay(0, 8));
        check.due("lay(0, 6) from a printed page", 2, () -> plan.lay(0, 6));
        check.due("lay(0, 7)", 2, () -> plan.lay(0, 7));
        FlatPlan half = check.loaded("plan 1 8;story 2 0 1 0;lay 0 2;");
        half.print(0);
        check.due("lay(0, 6) from an open form", 0, () -> half.lay(0, 6));
        half.lay(0, 2);
        half.undo();
        FlatPlan across = check.loaded("plan 2 4;story 2 0 0 0;lay 0 3;");
        across.print(0);
        check.due("lay(0, 6), of which one page is printed", 2, () -> across.lay(0, 6));
        check.due("lay(0, 3) where it is", 2, () -> across.lay(0, 3));
        changes(across, 1);
    }

    private static void take() {
        FlatPlan plan = check.loaded("plan 1 8;ad 1 0 0 0 1 0;ad 1 0 0 0 1 0;ad 1 0 0 0 1 0;put 0 1;put 1 2;");
        check.index("take(3)", () -> plan.take(3));
        check.index("take(-1)", () -> plan.take(-1));
        check.due("take of one not placed", false, () -> plan.take(2));
        plan.print(0);
        check.due("take from a printed page", false, () -> plan.take(0));
        check.due("take(1)", true, () -> plan.take(1));
        check.due("ad(1, 6)", -1, () -> plan.ad(1, 6));
        check.due("page(2, 3)", 4, () -> plan.page(2, 3));
        check.due("take(1) again", false, () -> plan.take(1));
        changes(plan, 2);
    }

    private static void takeStory() {
        FlatPlan plan = check.loaded("plan 1 8;story 2 0 0 0;story 2 0 0 0;story 1 0 0 0;lay 0 3;lay 1 6;");
        check.index("takeStory(3)", () -> plan.takeStory(3));
        check.index("takeStory(-1)", () -> plan.takeStory(-1));
        check.due("takeStory of one not placed", false, () -> plan.takeStory(2));
        plan.print(0);
        check.due("takeStory from a printed page", false, () -> plan.takeStory(0));
        check.due("takeStory(1)", true, () -> plan.takeStory(1));
        check.due("story(1, 4)", -1, () -> plan.story(1, 4));
        check.due("page(7, 3)", 4, () -> plan.page(7, 3));
        check.due("page(7, 5)", -1, () -> plan.page(7, 5));
        check.due("takeStory(1) again", false, () -> plan.takeStory(1));
        changes(plan, 2);
    }

    private static void use() {
        FlatPlan plan = check.loaded("plan 1 8;standby 2;standby 4;standby 1;ad 2 0 0 0 1 0;story 1 0 0 0;put 0 2;lay 0 7;");
        check.index("use(3, 1)", () -> plan.use(3, 1));
        check.index("use(-1, 1)", () -> plan.use(-1, 1));
        check.due("use(0, 0)", 1, () -> plan.use(0, 0));
        check.due("use(0, 9)", 1, () -> plan.use(0, 9));
        check.due("use(1, 2)", 3, () -> plan.use(1, 2));
        check.due("use(2, 7) on a story", 3, () -> plan.use(2, 7));
        changes(plan, 0);
        check.due("use(0, 2)", 0, () -> plan.use(0, 2));
        check.due("use(2, 2)", 3, () -> plan.use(2, 2));
        check.due("use(0, 2) again", 0, () -> plan.use(0, 2));
        check.due("use(0, 3)", 0, () -> plan.use(0, 3));
        check.due("page(2, 6)", 0, () -> plan.page(2, 6));
        check.due("page(3, 3)", 2, () -> plan.page(3, 3));
        check.due("use(2, 5)", 0, () -> plan.use(2, 5));
        changes(plan, 4);
        plan.print(0);
        check.due("use(1, 1) on a printed page", 2, () -> plan.use(1, 1));
        check.due("use(2, 6) from a printed page", 2, () -> plan.use(2, 6));
        check.due("use(2, 9) from a printed page", 1, () -> plan.use(2, 9));
        check.due("use(2, 7) from a printed page", 2, () -> plan.use(2, 7));
        changes(plan, 5);
    }

    private static void clear() {
        FlatPlan plan = check.loaded("plan 1 8;ad 1 0 0 0 1 0;ad 1 0 0 0 1 0;standby 2;standby 1;story 1 0 0 0;"
                + "ad 1 0 0 0 1 0;put 0 2;put 1 2;put 2 5;lay 0 3;");
        check.index("clear(0)", () -> plan.clear(0));
        check.index("clear(9)", () -> plan.clear(9));
        check.due("clear of an empty page", -4, () -> plan.clear(1));
        check.due("clear of a story", -4, () -> plan.clear(3));
        changes(plan, 0);
        plan.use(0, 2);
        plan.use(1, 5);
        check.due("clear(2)", 3, () -> plan.clear(2));
        check.due("page(2, 3)", 4, () -> plan.page(2, 3));
        check.due("ad(0, 6)", -1, () -> plan.ad(0, 6));
        check.due("standby(0, 1)", -1, () -> plan.standby(0, 1));
        check.due("ad(2, 6)", 5, () -> plan.ad(2, 6));
        check.due("standby(1, 1)", 5, () -> plan.standby(1, 1));
        check.due("clear(2) again", -4, () -> plan.clear(2));
        plan.print(0);
        check.due("clear of a printed page", -4, () -> plan.clear(5));
        changes(plan, 4);
        plan.undo();
        plan.undo();
        check.due("page(2, 3) after undo", 0, () -> plan.page(2, 3));
    }

    private static void exchange() {
        FlatPlan plan = check.loaded("plan 1 8;ad 1 0 0 0 1 0;ad 2 1 0 0 1 0;ad 4 0 0 0 1 0;standby 1;standby 2;put 0 2;"
                + "put 1 2;put 2 7;");
        plan.use(0, 2);
        plan.use(1, 3);
        check.index("exchange(0, 1)", () -> plan.exchange(0, 1));
        check.index("exchange(1, 0)", () -> plan.exchange(1, 0));
        check.index("exchange(9, 1)", () -> plan.exchange(9, 1));
        check.index("exchange(1, 9)", () -> plan.exchange(1, 9));
        check.due("exchange(7, 2)", 0, () -> plan.exchange(7, 2));
        check.due("ad(0, 6)", 7, () -> plan.ad(0, 6));
        check.due("ad(1, 6)", 7, () -> plan.ad(1, 6));
        check.due("ad(2, 6)", 2, () -> plan.ad(2, 6));
        check.due("standby(0, 1)", 7, () -> plan.standby(0, 1));
        check.due("standby(1, 1)", 3, () -> plan.standby(1, 1));
        check.due("page(7, 3)", 0, () -> plan.page(7, 3));
        check.due("exchange of empty pages", 0, () -> plan.exchange(5, 6));
        changes(plan, 4);
        plan.undo();
        plan.undo();
        check.due("ad(2, 6) after undo", 7, () -> plan.ad(2, 6));
    }

    private static void exchangeReasons() {
        // 0 has color, 1 stands left, 2 and 3 are rivals
        FlatPlan plan = check.loaded("plan 2 8;color 0;ad 1 0 1 0 1 0;ad 1 0 0 1 1 0;ad 1 5 0 0 1 0;ad 1 5 0 0 1 0;"
                + "story 1 0 0 0;put 0 1;put 1 2;put 2 4;put 3 6;lay 0 9;");
        int digest = plan.digest();
        check.due("exchange(1, 3)", 4, () -> plan.exchange(1, 3));
        check.due("exchange(3, 1)", 4, () -> plan.exchange(3, 1));
        check.due("exchange(1, 5)", 0, () -> plan.exchange(1, 5));
        plan.undo();
        check.due("exchange(2, 3)", 5, () -> plan.exchange(2, 3));
        check.due("exchange(1, 2)", 4, () -> plan.exchange(1, 2));
        check.due("exchange(4, 7)", 6, () -> plan.exchange(4, 7));
        check.due("exchange(6, 5)", 6, () -> plan.exchange(6, 5));
        check.due("exchange(1, 9)", 3, () -> plan.exchange(1, 9));
        check.due("exchange(9, 1)", 3, () -> plan.exchange(9, 1));
        check.due("digest()", digest, () -> plan.digest());
        changes(plan, 0);
        plan.print(3);
        check.due("exchange(9, 10) with a printed page", 2, () -> plan.exchange(9, 10));
        check.due("exchange(10, 9)", 2, () -> plan.exchange(10, 9));
        // An ad on the wrong side and a rival that comes: the lower reason counts.
        FlatPlan both = check.loaded("ad 1 5 0 1 1 0;ad 1 5 0 0 1 0;put 0 2;put 1 4;");
        check.due("exchange(2, 5)", 5, () -> both.exchange(2, 5));
        check.due("exchange(2, 4)", 0, () -> both.exchange(2, 4));
        check.due("exchange(4, 3)", 5, () -> both.exchange(4, 3));
        check.due("exchange(2, 5) beside the other", 6, () -> both.exchange(2, 5));
    }

    private static void exchangeOfOnePage() {
        FlatPlan plan = check.loaded("plan 1 8;ad 1 1 0 0 1 0;story 1 0 0 0;put 0 2;lay 0 3;");
        check.due("exchange(2, 2)", 0, () -> plan.exchange(2, 2));
        check.due("exchange(8, 8)", 0, () -> plan.exchange(8, 8));
        changes(plan, 2);
        check.due("ad(0, 6)", 2, () -> plan.ad(0, 6));
        check.due("exchange(3, 3)", 3, () -> plan.exchange(3, 3));
        plan.print(1);
        check.due("exchange(3, 3) printed", 2, () -> plan.exchange(3, 3));
        changes(plan, 3);
    }

    private static void exchangeOfRivals() {
        // Rivals on the two pages themselves change places; within one spread nothing comes nearer.
        FlatPlan plan = check.loaded("ad 1 5 0 0 1 0;ad 1 5 0 0 1 0;ad 1 6 0 0 1 0;put 0 2;put 1 4;put 2 3;");
        check.due("exchange(2, 4)", 0, () -> plan.exchange(2, 4));
        check.due("exchange(2, 3)", 0, () -> plan.exchange(2, 3));
        check.due("ad(1, 6)", 3, () -> plan.ad(1, 6));
        check.due("ad(2, 6)", 2, () -> plan.ad(2, 6));
        check.due("exchange(3, 5)", 6, () -> plan.exchange(3, 5));
        check.due("exchange(1, 16)", 0, () -> plan.exchange(1, 16));
        changes(plan, 3);
        // Group 0 and ads that are not placed are no rivals; page 1 has the spread 0.
        FlatPlan free = check.loaded("ad 1 0 0 0 1 0;ad 1 0 0 0 1 0;ad 1 7 0 0 1 0;ad 1 7 0 0 1 0;put 0 2;put 1 4;put 2 6;");
        check.due("exchange(2, 5)", 0, () -> free.exchange(2, 5));
        check.due("exchange(6, 1)", 0, () -> free.exchange(6, 1));
    }
}
