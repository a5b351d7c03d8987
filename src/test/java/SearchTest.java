/** Promises 32 to 41 and 49 to 53: the searches. */
public final class SearchTest {
    private static final Check check = new Check("SearchTest");

    public static void main(String[] args) {
        placeAds();
        placeAdsInOrder();
        layStories();
        choices();
        firstPage();
        tightest();
        eviction();
        evictionOfRivals();
        cheapestPage();
        matching();
        matchingLooksAgain();
        bestColor();
        lateItem();
        lastReady();
        betterExchange();
        betterExchangeThatMayNotBe();
        emptyRun();
        emptiest();
        check.end();
    }

    private static void pageOfAd(FlatPlan plan, int ad, int due) {
        check.due("ad(" + ad + ", 6)", due, () -> plan.ad(ad, 6));
    }

    private static void placeAds() {
        FlatPlan plan = check.loaded("plan 1 4;ad 4 0 0 0 5 0;ad 4 0 0 0 5 0;ad 4 0 0 0 9 0;ad 4 0 1 0 99 0;"
                + "ad 4 0 0 2 4 0;put 0 2;");
        check.due("placeAds()", 2, () -> plan.placeAds());
        int[] due = {2, 3, 1, -1, -1};
        for (int ad = 0; ad < due.length; ad++) {
            pageOfAd(plan, ad, due[ad]);
        }
        check.due("undoCount()", 1, () -> plan.undoCount());
        check.due("placeAds() of none", 0, () -> plan.placeAds());
        check.due("undoCount()", 2, () -> plan.undoCount());
        plan.undo();
        check.due("count(7)", 3, () -> plan.count(7));
        plan.undo();
        check.due("count(7)", 1, () -> plan.count(7));
        check.due("placeAds() of a new plan", 0, () -> new FlatPlan().placeAds());
    }

    private static void placeAdsInOrder() {
        // By price 3, 2, 1; on a tie by size; then by number.
        FlatPlan plan = check.loaded("plan 1 4;ad 1 0 0 0 1 0;ad 4 0 0 0 1 0;ad 2 0 0 0 2 0;ad 1 0 0 0 2 0;"
                + "ad 1 0 0 0 2 0;ad 2 0 0 0 2 0;ad 1 0 0 0 3 0;");
        check.due("placeAds()", 7, () -> plan.placeAds());
        int[] due = {2, 3, 1, 1, 2, 2, 1};
        for (int ad = 0; ad < due.length; ad++) {
            pageOfAd(plan, ad, due[ad]);
        }
        FlatPlan rivals = check.loaded("plan 1 8;ad 1 1 0 0 1 0;ad 1 1 0 0 2 0;ad 1 1 0 0 3 0;ad 1 2 0 0 3 0;");
        check.due("placeAds() of rivals", 4, () -> rivals.placeAds());
        int[] apart = {4, 2, 1, 1};
        for (int ad = 0; ad < apart.length; ad++) {
            pageOfAd(rivals, ad, apart[ad]);
        }
    }

    private static void layStories() {
        FlatPlan plan = check.loaded("plan 1 8;story 1 0 0 0;story 2 0 0 0;story 3 0 1 0;story 2 0 0 0;story 8 0 0 0;"
                + "story 3 1 0 0;ad 1 0 0 0 1 0;put 0 5;");
        check.due("layStories()", 3, () -> plan.layStories());
        int[] due = {1, 6, 2, -1, -1, -1};
        for (int story = 0; story < due.length; story++) {
            int one = story;
            check.due("story(" + story + ", 4)", due[story], () -> plan.story(one, 4));
        }
        check.due("undoCount()", 1, () -> plan.undoCount());
        check.due("layStories() of none", 0, () -> plan.layStories());
        check.due("undoCount()", 2, () -> plan.undoCount());
        plan.undo();
        plan.undo();
        check.due("count(8)", 0, () -> plan.count(8));
        check.due("lay(0, 2)", 0, () -> plan.lay(0, 2));
        check.due("layStories() around a story", 2, () -> plan.layStories());
        check.due("story(0, 4) stays", 2, () -> plan.story(0, 4));
        check.due("story(2, 4)", 6, () -> plan.story(2, 4));
        check.due("story(1, 4)", 3, () -> plan.story(1, 4));
        FlatPlan last = check.loaded("plan 1 4;story 3 0 0 0;story 1 0 0 0;lay 0 1;");
        check.due("layStories() on the last page", 1, () -> last.layStories());
        check.due("story(1, 4)", 4, () -> last.story(1, 4));
    }

    private static void choices() {
        FlatPlan plan = check.loaded("plan 1 8;color 0;ad 1 0 1 0 1 0;ad 2 1 0 1 1 0;ad 4 1 0 0 1 0;put 2 4;");
        check.index("choices(3)", () -> plan.choices(3));
        check.index("choices(-1)", () -> plan.choices(-1));
        check.due("choices(0)", 3, () -> plan.choices(0));
        check.due("choices(1)", 3, () -> plan.choices(1));
        check.due("choices(2), itself placed", 8, () -> plan.choices(2));
        plan.print(1);
        check.due("choices(1) of the printed", 1, () -> plan.choices(1));
        plan.print(0);
        check.due("choices(1) of the printed", 0, () -> plan.choices(1));
    }

    private static void firstPage() {
        FlatPlan plan = check.loaded("plan 1 8;ad 1 1 0 1 1 0;ad 4 1 0 0 1 0;put 1 4;");
        check.index("firstPage(2, 1)", () -> plan.firstPage(2, 1));
        check.index("firstPage(-1, 1)", () -> plan.firstPage(-1, 1));
        int[][] due = {{Integer.MIN_VALUE, 2}, {-1, 2}, {0, 2}, {1, 2}, {2, 2}, {3, 6}, {6, 6}, {7, 8}, {8, 8}, {9, -1},
            {Integer.MAX_VALUE, -1}};
        for (int[] row : due) {
            check.due("firstPage(0, " + row[0] + ")", row[1], () -> plan.firstPage(0, row[0]));
        }
        check.due("firstPage(1, 4) where it stands", 4, () -> plan.firstPage(1, 4));
    }

    private static void tightest() {
        FlatPlan plan = check.loaded("plan 1 8;color 0;ad 1 0 0 0 1 0;ad 1 0 1 0 1 0;ad 1 0 0 1 1 0;ad 1 0 1 2 1 0;"
                + "ad 1 0 1 1 1 0;");
        check.due("tightest()", 3, () -> plan.tightest());
        plan.put(3, 1);
        check.due("tightest()", 4, () -> plan.tightest());
        plan.put(4, 4);
        check.due("tightest() on a tie", 1, () -> plan.tightest());
        plan.put(1, 5);
        plan.put(2, 2);
        check.due("tightest()", 0, () -> plan.tightest());
        plan.put(0, 3);
        check.due("tightest() of none", -1, () -> plan.tightest());
    }

    private static void evictionIs(FlatPlan plan, int ad, int page, int due) {
        check.due("eviction(" + ad + ", " + page + ")", due, () -> plan.eviction(ad, page));
    }

    private static void eviction() {
        FlatPlan plan = check.loaded("plan 1 8;color 0;ad 4 0 0 0 1 0;ad 2 0 0 1 1 0;ad 1 0 1 0 1 0;ad 1 0 0 0 5 0;"
                + "ad 1 0 0 0 6 0;ad 2 0 0 0 10 0;ad 2 0 0 0 7 0;ad 1 0 0 0 9 0;story 1 0 0 0;standby 1;standby 4;"
                + "put 3 2;put 4 2;put 5 2;put 6 4;put 7 4;lay 0 7;");
        plan.use(0, 4);
        check.index("eviction(8, 1)", () -> plan.eviction(8, 1));
        check.index("eviction(-1, 1)", () -> plan.eviction(-1, 1));
        check.index("eviction(0, 0)", () -> plan.eviction(0, 0));
        check.index("eviction(0, 9)", () -> plan.eviction(0, 9));
        evictionIs(plan, 0, 1, 0);
        evictionIs(plan, 0, 2, 21);
        evictionIs(plan, 1, 2, 10);
        evictionIs(plan, 2, 2, -1);
        evictionIs(plan, 1, 1, -1);
        evictionIs(plan, 0, 4, -1);
        evictionIs(plan, 1, 4, 7);
        evictionIs(plan, 2, 4, 7);
        evictionIs(plan, 0, 7, -1);
        evictionIs(plan, 3, 2, 0);
        evictionIs(plan, 5, 2, 0);
        plan.setPrice(6, 20);
        evictionIs(plan, 1, 4, 20);
        evictionIs(plan, 2, 4, 9);
        plan.setPrice(5, 12);
        evictionIs(plan, 1, 2, 11);
        plan.use(1, 6);
        evictionIs(plan, 7, 6, -1);
        check.due("nothing was removed", 0, () -> plan.page(2, 3));
        plan.print(1);
        evictionIs(plan, 1, 2, -1);
        evictionIs(plan, 7, 3, -1);
        evictionIs(plan, 1, 4, 20);
    }

    private static void evictionOfRivals() {
        // Pages 4 and 5 are one spread; 4 is of form 0, 5 of form 2.
        FlatPlan plan = check.loaded("plan 2 4;ad 1 3 0 0 50 0;ad 2 3 0 0 7 0;ad 2 0 0 0 4 0;ad 2 0 0 0 3 0;ad 4 3 0 0 1 0;"
                + "ad 1 0 0 0 1 0;put 1 4;put 2 4;put 3 5;put 5 5;");
        evictionIs(plan, 0, 4, 7);
        evictionIs(plan, 0, 5, 7);
        evictionIs(plan, 4, 4, 11);
        evictionIs(plan, 4, 5, 11);
        evictionIs(plan, 4, 3, 0);
        evictionIs(plan, 1, 5, 1);
        plan.take(5);
        evictionIs(plan, 1, 5, 0);
        plan.undo();
        plan.print(0);
        evictionIs(plan, 0, 5, -1);
        evictionIs(plan, 4, 5, -1);
        evictionIs(plan, 0, 4, -1);
        evictionIs(plan, 1, 5, 1);
        // The rival on the page goes, though another one would be cheaper.
        FlatPlan here = check.loaded("plan 1 4;ad 2 3 0 0 1 0;ad 2 3 0 0 9 0;ad 2 0 0 0 2 0;put 1 2;put 2 2;");
        evictionIs(here, 0, 2, 9);
        evictionIs(here, 0, 3, 9);
        // The first ad may be the one that goes; one that is not placed is not on page 1.
        evictionIs(here, 0, 1, 0);
        FlatPlan first = check.loaded("plan 1 4;ad 4 3 0 0 9 0;ad 2 3 0 0 1 0;put 0 2;");
        evictionIs(first, 1, 2, 9);
        evictionIs(first, 1, 3, 9);
        evictionIs(first, 1, 1, 0);
        FlatPlan alone = check.loaded("plan 1 4;ad 4 3 0 0 9 0;ad 2 3 0 0 1 0;put 0 1;");
        evictionIs(alone, 1, 1, 9);
        alone.take(0);
        evictionIs(alone, 1, 1, 0);
    }

    private static void cheapestPage() {
        FlatPlan plan = check.loaded("plan 1 4;ad 4 0 0 1 1 0;ad 1 0 0 0 9 0;ad 2 0 0 0 9 0;ad 4 0 1 0 1 0;put 1 2;put 2 4;");
        check.index("cheapestPage(4)", () -> plan.cheapestPage(4));
        check.index("cheapestPage(-1)", () -> plan.cheapestPage(-1));
        check.due("cheapestPage(0) on a tie", 2, () -> plan.cheapestPage(0));
        plan.setPrice(2, 8);
        check.due("cheapestPage(0)", 4, () -> plan.cheapestPage(0));
        check.due("cheapestPage(1)", 1, () -> plan.cheapestPage(1));
        check.due("cheapestPage(3)", -1, () -> plan.cheapestPage(3));
        plan.print(0);
        check.due("cheapestPage(0)", 2, () -> plan.cheapestPage(0));
    }

    private static void matching() {
        FlatPlan plan = check.loaded("plan 1 4;color 0;ad 4 1 1 0 1 0;ad 4 1 1 1 1 0;ad 4 1 0 2 1 0;ad 4 0 0 2 1 0;"
                + "ad 4 1 0 2 1 0;ad 2 0 0 0 1 0;ad 4 0 0 0 1 0;standby 1;");
        check.due("matching()", 4, () -> plan.matching());
        plan.put(6, 4);
        check.due("matching() with a placed one", 2, () -> plan.matching());
        plan.use(0, 1);
        check.due("matching() with one page less", 1, () -> plan.matching());
        plan.print(1);
        check.due("matching() with a printed form", 0, () -> plan.matching());
        check.due("matching() of a new plan", 0, () -> new FlatPlan().matching());
        // A rival on the spread does not matter.
        FlatPlan rival = check.loaded("plan 1 4;ad 4 1 0 1 1 0;ad 1 1 0 0 1 0;put 1 3;");
        rival.print(0);
        check.due("reason(0, 2)", 6, () -> rival.reason(0, 2));
        check.due("matching() beside a rival", 1, () -> rival.matching());
    }

    private static void matchingLooksAgain() {
        // The later ads need the pages that the first ones would take.
        FlatPlan plan = check.loaded("plan 1 4;color 0;ad 4 0 0 0 1 0;ad 4 0 0 0 1 0;ad 4 0 0 2 1 0;ad 4 0 1 2 1 0;");
        check.due("matching()", 4, () -> plan.matching());
        FlatPlan sides = check.loaded("plan 1 4;color 0;ad 4 0 0 0 1 0;ad 4 0 1 0 1 0;ad 4 0 0 1 1 0;ad 4 0 0 2 1 0;"
                + "ad 4 0 1 2 1 0;");
        check.due("matching()", 4, () -> sides.matching());
        // The first ad makes way for the second one, and there is no way for the third.
        FlatPlan full = check.loaded("plan 1 4;color 0;ad 4 0 0 0 1 0;ad 4 0 1 2 1 0;ad 4 0 1 2 1 0;");
        check.due("matching()", 2, () -> full.matching());
        // Two ads make way, one for the other: 0 to page 3, 1 from there to page 4.
        FlatPlan chain = check.loaded("plan 1 4;color 0;ad 4 0 0 2 1 0;ad 4 0 0 0 1 0;ad 4 0 1 2 1 0;ad 4 0 0 0 1 0;"
                + "standby 1;");
        chain.use(0, 2);
        check.due("matching()", 3, () -> chain.matching());
        FlatPlan many = check.loaded("ad 4 0 0 0 1 0;".repeat(40));
        check.due("matching() of 40", 16, () -> many.matching());
        FlatPlan large = check.loaded("plan 4 16;" + "ad 4 9 0 1 1 0;".repeat(40));
        check.due("matching() of 40 on 32", 32, () -> large.matching());
    }

    private static void bestColor() {
        FlatPlan plan = check.loaded("plan 4 8;color 2;ad 4 0 0 0 1 0;ad 2 0 0 0 1 0;put 0 1;put 1 2;");
        check.argument("bestColor(0)", () -> plan.bestColor(0));
        check.argument("bestColor(9)", () -> plan.bestColor(9));
        check.argument("bestColor(-1)", () -> plan.bestColor(-1));
        check.due("bestColor(1)", 8, () -> plan.bestColor(1));
        check.due("bestColor(2)", 8 + 16, () -> plan.bestColor(2));
        plan.print(4);
        check.due("bestColor(2)", 8 + 32, () -> plan.bestColor(2));
        check.due("bestColor(4)", 8 + 32 + 64 + 128, () -> plan.bestColor(4));
        check.due("bestColor(5)", 2 + 8 + 32 + 64 + 128, () -> plan.bestColor(5));
        check.due("bestColor(6)", 1 + 2 + 8 + 32 + 64 + 128, () -> plan.bestColor(6));
        check.due("bestColor(7)", 0, () -> plan.bestColor(7));
        check.due("bestColor(8)", 0, () -> plan.bestColor(8));
        FlatPlan all = check.loaded("plan 4 4;");
        check.due("bestColor(8)", 255, () -> all.bestColor(8));
        FlatPlan none = check.loaded("plan 1 4;color 0;");
        none.print(1);
        check.due("bestColor(1) of none", 0, () -> none.bestColor(1));
        none.print(0);
        check.due("bestColor(1) of none", 0, () -> none.bestColor(1));
        // Full forms can be the set too.
        FlatPlan full = check.loaded("plan 1 4;story 4 0 0 0;lay 0 1;");
        check.due("bestColor(1) of full forms", 1, () -> full.bestColor(1));
        check.due("bestColor(2) of full forms", 3, () -> full.bestColor(2));
    }

    private static void lateItem() {
        FlatPlan plan = check.loaded("plan 1 8;ad 1 0 0 0 1 5;ad 1 0 0 0 1 3;ad 1 0 0 0 1 5;ad 1 0 0 0 1 2;ad 1 0 0 0 1 4;"
                + "ad 1 0 0 0 1 0;story 1 0 0 5;story 1 0 0 3;story 2 0 0 4;story 1 0 0 1;"
                + "put 0 1;put 1 1;put 2 1;put 3 1;put 5 2;lay 0 3;lay 1 4;lay 3 5;");
        int[] due = {103, 3, 1, 101, 0, 2, 100, -1};
        for (int k = 0; k < due.length; k++) {
            int one = k;
            check.due("lateItem(" + k + ")", due[k], () -> plan.lateItem(one));
        }
        check.due("lateItem(-1)", -1, () -> plan.lateItem(-1));
        check.due("lateItem(least)", -1, () -> plan.lateItem(Integer.MIN_VALUE));
        check.due("lateItem(greatest)", -1, () -> plan.lateItem(Integer.MAX_VALUE));
        plan.pass(3);
        check.due("lateItem(0) later", 0, () -> plan.lateItem(0));
        check.due("lateItem(2) later", 100, () -> plan.lateItem(2));
        check.due("lateItem(3) later", -1, () -> plan.lateItem(3));
        StringBuilder all = new StringBuilder("plan 4 16;" + "ad 1 0 0 0 1 9;".repeat(40) + "story 1 0 0 9;".repeat(10));
        FlatPlan full = check.loaded(all.toString());
        full.placeAds();
        full.layStories();
        check.due("lateItem(39)", 39, () -> full.lateItem(39));
        check.due("lateItem(49)", 109, () -> full.lateItem(49));
        check.due("lateItem(50)", -1, () -> full.lateItem(50));
    }

    private static void lastReady() {
        FlatPlan plan = check.loaded("plan 2 4;ad 1 0 0 0 1 0;ad 1 0 0 0 1 4;ad 1 0 0 0 1 4;ad 1 0 0 0 1 9;story 2 0 0 4;"
                + "story 1 0 0 5;");
        check.due("lastReady() of none", -1, () -> plan.lastReady());
        plan.put(0, 8);
        check.due("lastReady() of 0", 0, () -> plan.lastReady());
        plan.lay(0, 3);
        check.due("lastReady() of a story", 100, () -> plan.lastReady());
        plan.put(2, 2);
        check.due("lastReady() on a tie", 2, () -> plan.lastReady());
        plan.put(1, 2);
        check.due("lastReady() on a tie", 1, () -> plan.lastReady());
        plan.lay(1, 6);
        check.due("lastReady()", 101, () -> plan.lastReady());
        plan.pass(9);
        check.due("lastReady() when all are ready", 101, () -> plan.lastReady());
        plan.print(3);
        check.due("lastReady() with a printed form", 1, () -> plan.lastReady());
        plan.print(1);
        check.due("lastReady() of a story half on an open form", 100, () -> plan.lastReady());
        plan.print(0);
        check.due("lastReady()", 0, () -> plan.lastReady());
        plan.print(2);
        check.due("lastReady() when all is printed", -1, () -> plan.lastReady());
        FlatPlan stories = check.loaded("story 1 0 0 4;story 1 0 0 9;story 1 0 0 5;story 1 0 0 9;lay 0 1;lay 1 2;lay 2 3;"
                + "lay 3 4;");
        check.due("lastReady() of four stories", 101, () -> stories.lastReady());
    }

    private static void betterExchange() {
        check.due("betterExchange() of a new plan", -1, () -> new FlatPlan().betterExchange());
        FlatPlan plan = check.loaded("plan 1 8;color 0;color 1;ad 1 0 1 0 1 0;ad 1 0 1 0 1 0;ad 1 0 0 0 1 0;put 0 4;put 1 7;"
                + "put 2 2;");
        check.due("betterExchange()", 107, () -> plan.betterExchange());
        plan.setAd(2, false, 0);
        check.due("exchange(1, 7)", 0, () -> plan.exchange(1, 7));
        check.due("betterExchange() of the best", -1, () -> plan.betterExchange());
        // The ad with color stands on the same page as others; the first pair of several counts.
        FlatPlan first = check.loaded("plan 1 8;color 0;color 1;ad 1 0 1 0 1 0;ad 1 0 1 0 1 0;put 0 1;put 1 2;");
        check.due("betterExchange()", 103, () -> first.betterExchange());
        FlatPlan near = check.loaded("plan 1 8;color 0;color 1;ad 1 0 1 0 1 0;ad 1 0 1 0 1 0;put 0 2;put 1 8;");
        check.due("betterExchange() of neighbors", 102, () -> near.betterExchange());
        FlatPlan behind = check.loaded("plan 1 4;color 0;color 1;ad 1 0 1 1 1 0;story 1 1 0 0;story 1 0 0 0;put 0 2;lay 0 1;"
                + "lay 1 3;");
        check.due("betterExchange() with the last page", 204, () -> behind.betterExchange());
    }

    private static void betterExchangeThatMayNotBe() {
        // A story with color holds form 1; the ad cannot go to a page of the story.
        FlatPlan story = check.loaded("plan 1 8;color 0;color 1;ad 1 0 1 2 1 0;story 1 1 0 0;put 0 1;lay 0 3;");
        check.due("betterExchange()", 107, () -> story.betterExchange());
        story.print(1);
        check.due("betterExchange() with a printed form", -1, () -> story.betterExchange());
        // Two colored pages on each form: one exchange is not enough.
        FlatPlan four = check.loaded("plan 1 8;color 0;color 1;ad 1 0 1 0 1 0;ad 1 0 1 0 1 0;ad 1 0 1 0 1 0;ad 1 0 1 0 1 0;"
                + "put 0 1;put 1 4;put 2 2;put 3 3;");
        check.due("betterExchange()", -1, () -> four.betterExchange());
        // Without color on form 1, form 0 cannot be left.
        FlatPlan plain = check.loaded("plan 2 4;color 0;color 2;ad 1 1 1 0 1 0;ad 1 1 1 0 1 0;put 0 1;put 1 8;");
        check.due("betterExchange()", 105, () -> plain.betterExchange());
        // Both stand left: 1 and 8, 4 and 5 would be on the wrong side.
        FlatPlan left = check.loaded("plan 2 4;color 0;color 2;ad 1 0 1 1 1 0;ad 1 0 1 1 1 0;put 0 4;put 1 8;");
        check.due("betterExchange() of left ads", -1, () -> left.betterExchange());
        // A story on 1; on 4 the ad would be beside its rival on 5, with which it may change places.
        FlatPlan rival = check.loaded("plan 1 8;color 0;color 1;ad 1 1 1 0 1 0;ad 1 1 0 0 1 0;ad 1 0 1 0 1 0;story 1 0 0 0;"
                + "put 0 2;put 1 5;put 2 8;lay 0 1;");
        check.due("betterExchange() beside a rival", 205, () -> rival.betterExchange());
    }

    private static void emptyRun() {
        FlatPlan plan = check.loaded("plan 1 8;ad 1 0 0 0 1 0;story 1 0 0 0;standby 1;put 0 3;lay 0 6;");
        check.argument("emptyRun(0)", () -> plan.emptyRun(0));
        check.argument("emptyRun(65)", () -> plan.emptyRun(65));
        check.argument("emptyRun(-1)", () -> plan.emptyRun(-1));
        check.due("emptyRun(1)", 1, () -> plan.emptyRun(1));
        check.due("emptyRun(2)", 1, () -> plan.emptyRun(2));
        check.due("emptyRun(3)", -1, () -> plan.emptyRun(3));
        plan.use(0, 2);
        check.due("emptyRun(2)", 4, () -> plan.emptyRun(2));
        plan.use(0, 5);
        plan.put(0, 2);
        check.due("emptyRun(2)", 3, () -> plan.emptyRun(2));
        plan.put(0, 4);
        check.due("emptyRun(3)", 1, () -> plan.emptyRun(3));
        check.due("emptyRun(64)", -1, () -> plan.emptyRun(64));
        FlatPlan large = check.loaded("plan 4 16;");
        check.due("emptyRun(64)", 1, () -> large.emptyRun(64));
        large.print(0);
        check.due("emptyRun(64) printed", 1, () -> large.emptyRun(64));
    }

    private static void emptiest() {
        FlatPlan plan = check.loaded("plan 1 8;ad 1 0 0 0 1 0;ad 2 0 0 0 1 0;ad 2 0 0 0 1 0;ad 1 0 0 0 1 0;story 1 0 0 0;"
                + "standby 4;put 0 1;put 1 2;put 2 5;put 3 5;lay 0 4;");
        plan.use(0, 7);
        int[] due = {3, 6, 8, 1, 2, 5, 4, 7, -1};
        for (int k = 0; k < due.length; k++) {
            int one = k;
            check.due("emptiest(" + k + ")", due[k], () -> plan.emptiest(one));
        }
        check.due("emptiest(-1)", -1, () -> plan.emptiest(-1));
        check.due("emptiest(least)", -1, () -> plan.emptiest(Integer.MIN_VALUE));
        check.due("emptiest(greatest)", -1, () -> plan.emptiest(Integer.MAX_VALUE));
    }
}
