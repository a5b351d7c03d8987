import java.util.ArrayList;
import java.util.List;
import java.util.function.Supplier;

/** Boundary cases of promises 32 to 41 and 49 to 53. */
final class BoundsOfSearches extends Bounds {
    private static final String AD = "ad 1 0 0 0 1 0;";
    private static final String WHOLE = "ad 4 0 0 0 1 0;";
    private static final String STORY = "story 1 0 0 0;";

    BoundsOfSearches(Check check) {
        super(check);
    }

    @Override
    void run() {
        placeAds();
        orderOfAds();
        layStories();
        orderOfStories();
        choices();
        firstPage();
        tightest();
        evictionThrows();
        evictionOrNone();
        whatStays();
        leastSum();
        evictionOfRivals();
        cheapestPage();
        matching();
        greatestMatching();
        bestColor();
        bestColorSets();
        lateItem();
        lateItemsOnATie();
        lastReady();
        betterExchange();
        betterExchangeThatCannotBe();
        emptyRun();
        emptiest();
    }

    private void placesOfAds(FlatPlan plan, int... due) {
        inOrder("ad(k, 6)", due, k -> plan.ad(k, 6));
    }

    private void placesOfStories(FlatPlan plan, int... due) {
        inOrder("story(k, 4)", due, k -> plan.story(k, 4));
    }

    // ---- promises 32 and 33

    private void placeAds() {
        told("Promise 32", "Places all ads that are not placed, as far as they can be, a change (also if none can be)");
        changed(FlatPlan::new, "placeAds() without ads", 0, p -> p.placeAds());
        changed(() -> loaded("plan 1 4;" + AD + "put 0 4;"), "placeAds(), all placed", 0, p -> p.placeAds());
        changed(() -> loaded("plan 1 4;story 4 0 0 0;" + AD + "lay 0 1;"), "placeAds(), no place", 0, p -> p.placeAds());
        changed(() -> loaded("plan 1 4;" + WHOLE.repeat(5)), "placeAds(), four of five", 4, p -> p.placeAds());
        changed(() -> loaded("plan 1 16;" + AD.repeat(40)), "placeAds() of 40", 40, p -> p.placeAds());
        told("Promise 32", "each one is put on the first page with the reason 0.");
        // Form 0 is printed, page 2 full, color only on 5 and 8.
        FlatPlan plan = loaded("plan 2 4;color 2;ad 2 1 1 1 5 0;ad 2 1 0 0 1 0;ad 2 0 0 1 4 0;ad 4 0 0 2 3 0;" + WHOLE
                + "ad 1 0 1 2 2 0;put 1 3;put 4 2;");
        plan.print(0);
        due("placeAds()", 3, () -> plan.placeAds());
        placesOfAds(plan, 8, 3, 6, 5, 2, -1);
        told("Promise 32", "Returns the number of ads that were placed.");
        due("placeAds() again", 0, () -> plan.placeAds());
        plan.clear(6);
        due("placeAds() of one more", 1, () -> plan.placeAds());
    }

    private void orderOfAds() {
        told("Promise 32", "by descending price, on a tie by descending size, then by number");
        FlatPlan price = loaded("plan 1 4;ad 4 0 0 0 1 0;ad 4 0 0 0 999 0;ad 4 0 0 0 2 0;ad 4 0 0 0 500 0;");
        due("placeAds() by price", 4, () -> price.placeAds());
        placesOfAds(price, 4, 1, 3, 2);
        FlatPlan size = loaded("plan 1 4;ad 1 0 0 0 5 0;ad 4 0 0 0 5 0;ad 2 0 0 0 5 0;");
        due("placeAds() by size", 3, () -> size.placeAds());
        placesOfAds(size, 2, 1, 2);
        FlatPlan number = loaded("plan 1 4;ad 2 0 0 0 5 0;ad 4 0 0 0 5 0;ad 4 0 0 0 5 0;ad 2 0 0 0 5 0;ad 2 0 0 0 5 0;");
        due("placeAds() by number", 5, () -> number.placeAds());
        placesOfAds(number, 3, 1, 2, 3, 4);
        FlatPlan rivals = loaded("plan 1 4;ad 1 1 0 0 5 0;ad 1 1 0 0 6 0;ad 1 1 0 0 5 0;ad 1 1 0 0 5 0;");
        due("placeAds() of rivals", 3, () -> rivals.placeAds());
        placesOfAds(rivals, 2, 1, 4, -1);
    }

    private void layStories() {
        told("Promise 33", "Lays all stories that are not placed, as far as they can be, a change (also if none can be)");
        changed(FlatPlan::new, "layStories() without stories", 0, p -> p.layStories());
        changed(() -> loaded("plan 1 4;" + STORY + "lay 0 4;"), "layStories(), all laid", 0, p -> p.layStories());
        changed(() -> loaded("plan 1 4;story 5 0 0 0;story 8 0 0 0;"), "layStories(), too long", 0, p -> p.layStories());
        changed(() -> loaded("plan 2 4;story 8 0 0 0;"), "layStories() of the whole magazine", 1, p -> p.layStories());
        changed(() -> loaded("plan 1 16;" + STORY.repeat(10)), "layStories() of 10", 10, p -> p.layStories());
        told("Promise 33", "each one is laid from the first page on with the reason 0.");
        FlatPlan plan = loaded("plan 2 8;color 2;color 3;story 3 1 1 0;story 2 0 0 0;story 1 0 2 0;" + AD + "put 0 2;");
        plan.print(0);
        due("layStories()", 3, () -> plan.layStories());
        placesOfStories(plan, 10, 6, 3);
        told("Promise 33", "Returns the number of stories that were laid.");
        due("layStories() again", 0, () -> plan.layStories());
        plan.takeStory(2);
        due("layStories() of one more", 1, () -> plan.layStories());
    }

    private void orderOfStories() {
        told("Promise 33", "by descending length, on a tie by number");
        FlatPlan length = loaded("plan 4 16;story 1 0 0 0;story 8 0 0 0;story 2 0 0 0;story 7 0 0 0;story 3 0 0 0;story 6 0 0 0;"
                + "story 4 0 0 0;story 5 0 0 0;");
        due("layStories() by length", 8, () -> length.layStories());
        placesOfStories(length, 36, 1, 34, 9, 31, 16, 27, 22);
        FlatPlan number = loaded("plan 1 4;story 2 0 0 0;story 1 0 0 0;story 2 0 0 0;story 1 0 0 0;");
        due("layStories() by number", 2, () -> number.layStories());
        placesOfStories(number, 1, -1, 3, -1);
        FlatPlan second = loaded("plan 1 4;story 3 0 2 0;story 2 0 0 0;story 3 0 0 0;story 1 0 0 0;");
        due("layStories()", 2, () -> second.layStories());
        placesOfStories(second, 1, -1, -1, 4);
    }

    // ---- promises 34 to 36

    private void choices() {
        told("Promise 34", "Returns the number of pages with the reason 0.");
        for (int[] size : new int[][] {{1, 4}, {1, 16}, {4, 16}}) {
            FlatPlan plan = loaded("plan " + size[0] + " " + size[1] + ";" + WHOLE + "ad 1 0 1 0 1 0;");
            due("choices(0)", size[0] * size[1], () -> plan.choices(0));
            due("choices(1)", 0, () -> plan.choices(1));
            plan.put(0, size[0] * size[1]);
            due("choices(0) where it stands", size[0] * size[1], () -> plan.choices(0));
        }
        told("Promise 34", "Counts the pages on which an ad could be put.");
        // Pages 2, 4, 6 and 8 are left ones; 3 has a rival, 6 is full, 4 and 8 are of form 0.
        FlatPlan plan = loaded("plan 1 8;ad 2 1 0 1 1 0;ad 1 1 0 0 1 0;" + WHOLE + "put 1 3;put 2 6;");
        due("choices(0)", 2, () -> plan.choices(0));
        plan.print(0);
        due("choices(0)", 0, () -> plan.choices(0));
        told("Promise 34", "Throws `IndexOutOfBoundsException` if there is no such ad");
        for (int ad : new int[] {LEAST, -1, 3, 40, GREATEST}) {
            refused(() -> loaded("plan 1 8;" + AD.repeat(3)), "choices(" + ad + ")", NO_INDEX, p -> p.choices(ad));
        }
    }

    private void firstPage() {
        told("Promise 35", "`from`: any number");
        FlatPlan plan = loaded("plan 4 16;" + AD);
        int[] from = {LEAST, -1, 0, 1, 2, 63, 64, 65, GREATEST};
        int[] due = {1, 1, 1, 1, 2, 63, 64, -1, -1};
        for (int i = 0; i < from.length; i++) {
            int one = from[i];
            due("firstPage(0, " + one + ")", due[i], () -> plan.firstPage(0, one));
        }
        told("Promise 35", "Finds the first page, from one on, on which an ad could be put.");
        plan.print(0);
        due("firstPage(0, 1) with a printed form", 2, () -> plan.firstPage(0, 1));
        due("firstPage(0, 4) with a printed form", 6, () -> plan.firstPage(0, 4));
        told("Promise 35", "Returns the page; NONE if there is none.");
        FlatPlan left = loaded("plan 1 8;ad 4 1 0 1 1 0;ad 4 1 0 0 1 0;ad 1 0 1 0 1 0;put 1 7;");
        inOrder("firstPage(0, from)", new int[] {2, 2, 2, 4, 4, 8, 8, 8, 8, -1}, k -> left.firstPage(0, k));
        inOrder("firstPage(1, from) where it stands", new int[] {1, 1, 2, 3, 4, 5, 6, 7, 8, -1}, k -> left.firstPage(1, k));
        due("firstPage(2, 1)", -1, () -> left.firstPage(2, 1));
        left.print(0);
        inOrder("firstPage(0, from)", new int[] {2, 2, 2, -1}, k -> left.firstPage(0, k));
        told("Promise 35", "Throws `IndexOutOfBoundsException` if there is no such ad");
        for (int ad : new int[] {LEAST, -1, 3, 40, GREATEST}) {
            due("firstPage(" + ad + ", 1)", NO_INDEX, () -> left.firstPage(ad, 1));
            due("firstPage(" + ad + ", 99)", NO_INDEX, () -> left.firstPage(ad, 99));
        }
    }

    private void tightest() {
        told("Promise 36", "Returns the ad, of several the lowest one; NONE if all are placed.");
        due("tightest() without ads", -1, () -> new FlatPlan().tightest());
        FlatPlan plan = loaded("plan 1 4;color 0;ad 1 0 0 0 1 0;ad 1 0 0 1 1 0;ad 1 0 1 0 1 0;ad 1 0 1 1 1 0;ad 1 0 1 2 1 0;");
        due("tightest() on a tie", 3, () -> plan.tightest());
        plan.put(3, 4);
        due("tightest()", 4, () -> plan.tightest());
        plan.put(4, 1);
        due("tightest() on a tie", 1, () -> plan.tightest());
        plan.put(1, 2);
        due("tightest()", 2, () -> plan.tightest());
        plan.put(2, 1);
        due("tightest() of one", 0, () -> plan.tightest());
        plan.put(0, 3);
        due("tightest() of none", -1, () -> plan.tightest());
        plan.take(3);
        due("tightest() of the one taken", 3, () -> plan.tightest());
        told("Promise 36", "Finds the ad that is not placed and has the fewest choices.");
        FlatPlan none = loaded("plan 1 4;" + AD + "ad 1 0 1 0 1 0;ad 1 0 1 0 1 0;");
        due("tightest() without a choice", 1, () -> none.tightest());
        FlatPlan placed = loaded("plan 1 4;color 0;ad 4 0 1 1 1 0;" + AD + WHOLE + "put 0 4;put 1 1;");
        due("tightest() beside placed ones", 2, () -> placed.tightest());
    }

    // ---- promises 37 and 38

    private void evictionIs(FlatPlan plan, int ad, int... due) {
        inOrder("eviction(" + ad + ", 1 +)", due, k -> plan.eviction(ad, k + 1));
    }

    private void evictionThrows() {
        Supplier<FlatPlan> made = () -> loaded("plan 2 4;" + AD + AD + "put 0 1;");
        told("Promise 37", "`page`: 1 to N");
        FlatPlan plan = made.get();
        due("eviction(1, 0)", NO_INDEX, () -> plan.eviction(1, 0));
        due("eviction(1, 1)", 0, () -> plan.eviction(1, 1));
        due("eviction(1, 8)", 0, () -> plan.eviction(1, 8));
        due("eviction(1, 9)", NO_INDEX, () -> plan.eviction(1, 9));
        told("Promise 37", "Throws `IndexOutOfBoundsException` if there is no such ad or page");
        for (int wrong : new int[] {LEAST, -1, 9, 40, 65, GREATEST}) {
            refused(made, "eviction(" + wrong + ", 1)", NO_INDEX, p -> p.eviction(wrong, 1));
            refused(made, "eviction(0, " + wrong + ")", NO_INDEX, p -> p.eviction(0, wrong));
            refused(made, "eviction(" + wrong + ", " + wrong + ")", NO_INDEX, p -> p.eviction(wrong, wrong));
        }
        refused(made, "eviction(2, 1)", NO_INDEX, p -> p.eviction(2, 1));
    }

    private void evictionOrNone() {
        told("Promise 37", "Returns the sum, 0 if it can be put there; NONE if it could not be put there by removing ads.");
        // Color, side and a printed form cannot be mended by removing ads.
        FlatPlan plan = loaded("plan 2 4;color 0;color 2;ad 2 0 1 2 1 0;ad 4 0 0 0 7 0;ad 1 0 0 0 9 0;put 1 1;put 2 5;");
        evictionIs(plan, 0, 7, -1, -1, -1, 0, -1, -1, -1);
        plan.print(0);
        evictionIs(plan, 0, -1, -1, -1, -1, 0, -1, -1, -1);
        evictionIs(plan, 1, -1, 0, 0, -1, 9, 0, 0, 0);
        FlatPlan itself = loaded("plan 1 4;" + WHOLE + "ad 2 1 0 0 5 0;ad 2 0 0 0 6 0;put 0 1;put 1 2;put 2 2;");
        evictionIs(itself, 0, 0, 11, 0, 0);
        evictionIs(itself, 1, 1, 0, 0, 0);
        evictionIs(itself, 2, 1, 0, 0, 0);
    }

    private void whatStays() {
        told("Promise 37", "Stories, standbys and ads on printed forms stay.");
        Supplier<FlatPlan> made = () -> {
            FlatPlan plan = loaded("plan 1 8;" + WHOLE + "ad 2 0 0 0 1 0;ad 1 0 0 0 1 0;ad 2 0 0 0 5 0;ad 1 0 0 0 3 0;"
                    + "standby 1;standby 2;standby 4;story 2 0 0 0;put 3 2;put 4 2;lay 0 3;");
            plan.use(0, 2);
            plan.use(1, 5);
            plan.use(2, 6);
            return plan;
        };
        FlatPlan plan = made.get();
        evictionIs(plan, 0, 0, -1, -1, -1, -1, -1, 0, 0);
        evictionIs(plan, 1, 0, 5, -1, -1, 0, -1, 0, 0);
        evictionIs(plan, 2, 0, 3, -1, -1, 0, -1, 0, 0);
        plan.print(1);
        evictionIs(plan, 2, 0, -1, -1, -1, 0, -1, -1, 0);
        // Whatever would have to go besides
        FlatPlan besides = loaded("plan 2 4;ad 1 1 0 0 8 0;ad 1 1 0 0 1 0;ad 4 0 0 0 5 0;ad 4 1 0 0 1 0;standby 1;put 0 4;put 2 5;");
        due("eviction(1, 5)", 13, () -> besides.eviction(1, 5));
        besides.print(0);
        due("eviction(1, 5) beside a printed rival", -1, () -> besides.eviction(1, 5));
        besides.undo();
        besides.take(2);
        besides.use(0, 5);
        due("eviction(1, 5) beside a rival and a standby", 8, () -> besides.eviction(1, 5));
        due("eviction(3, 5) beside a rival and a standby", -1, () -> besides.eviction(3, 5));
        // A rival on the other page of the spread, 4 and 5 of two signatures
        FlatPlan rival = loaded("plan 2 4;ad 1 1 0 0 1 0;ad 1 1 0 0 8 0;put 1 4;");
        evictionIs(rival, 0, 0, 0, 0, 8, 8, 0, 0, 0);
        rival.print(0);
        evictionIs(rival, 0, -1, 0, 0, -1, -1, 0, 0, 0);
        rival.undo();
        rival.print(2);
        evictionIs(rival, 0, 0, 0, 0, 8, -1, 0, 0, -1);
    }

    private void leastSum() {
        told("Promise 37", "Returns the least sum of prices of other ads that would have to be removed so that an ad could be put on a page.");
        // Four quarters: 1 for 3, 1 for 4, 2 for 8
        FlatPlan plan = loaded("plan 1 4;" + AD + "ad 2 0 0 0 1 0;" + WHOLE + "ad 1 0 0 0 3 0;ad 1 0 0 0 4 0;ad 2 0 0 0 8 0;"
                + "put 3 4;put 4 4;put 5 4;");
        evictionIs(plan, 0, 0, 0, 0, 3);
        evictionIs(plan, 1, 0, 0, 0, 7);
        evictionIs(plan, 2, 0, 0, 0, 15);
        plan.setPrice(5, 7);
        due("eviction(1, 4) on a tie", 7, () -> plan.eviction(1, 4));
        plan.setPrice(5, 6);
        due("eviction(1, 4) of one ad", 6, () -> plan.eviction(1, 4));
        plan.setPrice(5, 1);
        due("eviction(0, 4) of more than is needed", 1, () -> plan.eviction(0, 4));
        plan.take(3);
        due("eviction(1, 4) with a quarter left", 1, () -> plan.eviction(1, 4));
        plan.setPrice(5, 5);
        due("eviction(1, 4) with a quarter left", 4, () -> plan.eviction(1, 4));
        due("eviction(0, 4) with a quarter left", 0, () -> plan.eviction(0, 4));
        FlatPlan most = loaded("plan 1 4;" + WHOLE + "ad 1 0 0 0 999 0;".repeat(4) + "put 1 1;put 2 1;put 3 1;put 4 1;");
        due("eviction(0, 1) of four", 3996, () -> most.eviction(0, 1));
    }

    private void evictionOfRivals() {
        told("Promise 37", "so that an ad could be put on a page.");
        // The rival stands on 2 beside a cheaper ad; it has to go in any case.
        FlatPlan plan = loaded("plan 1 4;ad 1 1 0 0 1 0;ad 2 1 0 0 1 0;ad 4 1 0 0 1 0;ad 1 1 0 0 9 0;ad 2 0 0 0 2 0;ad 4 0 0 0 5 0;"
                + "put 3 2;put 4 2;put 5 3;");
        evictionIs(plan, 0, 0, 9, 14, 0);
        evictionIs(plan, 1, 0, 9, 14, 0);
        evictionIs(plan, 2, 0, 11, 14, 0);
        plan.put(3, 1);
        evictionIs(plan, 0, 9, 0, 5, 0);
        plan.put(3, 4);
        evictionIs(plan, 0, 0, 0, 5, 9);
        FlatPlan none = loaded("plan 1 4;ad 1 0 0 0 1 0;ad 1 0 0 0 9 0;ad 1 1 0 0 9 0;put 1 2;put 2 2;");
        evictionIs(none, 0, 0, 0, 0, 0);
    }

    private void cheapestPage() {
        told("Promise 38", "Finds the page with the least eviction() of an ad.");
        FlatPlan full = loaded("plan 1 4;ad 1 0 0 0 1 0;ad 4 0 0 0 999 0;ad 4 0 0 0 998 0;ad 4 0 0 0 997 0;ad 4 0 0 0 998 0;"
                + "put 1 1;put 2 2;put 3 3;put 4 4;");
        due("cheapestPage(0)", 3, () -> full.cheapestPage(0));
        due("eviction(0, 3)", 997, () -> full.eviction(0, 3));
        told("Promise 38", "Returns the page, of several the first one; NONE if there is none.");
        FlatPlan plan = loaded("plan 1 4;" + WHOLE.repeat(5) + "ad 1 0 1 0 1 0;put 1 1;put 2 2;put 3 3;put 4 4;");
        due("cheapestPage(0) on a tie", 1, () -> plan.cheapestPage(0));
        plan.setPrice(1, 2);
        due("cheapestPage(0)", 2, () -> plan.cheapestPage(0));
        plan.setPrice(2, 3);
        plan.setPrice(3, 3);
        due("cheapestPage(0) on the last page", 4, () -> plan.cheapestPage(0));
        plan.setPrice(4, 2);
        due("cheapestPage(0) on a tie", 1, () -> plan.cheapestPage(0));
        plan.take(3);
        due("cheapestPage(0) on an empty page", 3, () -> plan.cheapestPage(0));
        due("cheapestPage(4) before its own page", 3, () -> plan.cheapestPage(4));
        due("cheapestPage(5) without color", -1, () -> plan.cheapestPage(5));
        plan.print(0);
        plan.print(1);
        due("cheapestPage(0) printed", -1, () -> plan.cheapestPage(0));
        told("Promise 38", "Throws `IndexOutOfBoundsException` if there is no such ad");
        for (int ad : new int[] {LEAST, -1, 6, 40, GREATEST}) {
            due("cheapestPage(" + ad + ")", NO_INDEX, () -> plan.cheapestPage(ad));
        }
    }

    // ---- promises 39 and 40

    private void matching() {
        told("Promise 39", "Returns how many ads of size 4 that are not placed could be put on empty pages, each on another one,"
                + " if groups did not matter");
        due("matching() without ads", 0, () -> new FlatPlan().matching());
        due("matching() of sizes 1 and 2", 0, () -> loaded(AD + "ad 2 0 0 0 1 0;").matching());
        due("matching() of 3 on 4 pages", 3, () -> loaded("plan 1 4;" + WHOLE.repeat(3)).matching());
        due("matching() of 4 on 4 pages", 4, () -> loaded("plan 1 4;" + WHOLE.repeat(4)).matching());
        due("matching() of 5 on 4 pages", 4, () -> loaded("plan 1 4;" + WHOLE.repeat(5)).matching());
        due("matching() of 40 on 64 pages", 40, () -> loaded("plan 4 16;" + WHOLE.repeat(40)).matching());
        due("matching() of 40 on 16 pages", 16, () -> loaded(WHOLE.repeat(40)).matching());
        due("matching() of 40 on 32 left pages of 64", 32, () -> loaded("plan 4 16;" + "ad 4 0 0 1 1 0;".repeat(40)).matching());
        due("matching() of 40 on 32 right pages of 64", 32, () -> loaded("plan 4 16;" + "ad 4 0 0 2 1 0;".repeat(40)).matching());
        FlatPlan plan = loaded("plan 1 4;" + WHOLE.repeat(5) + AD + STORY + "standby 1;");
        plan.put(0, 1);
        due("matching() of four on three", 3, () -> plan.matching());
        plan.put(5, 2);
        due("matching() beside a quarter", 2, () -> plan.matching());
        plan.use(0, 3);
        due("matching() beside a standby", 1, () -> plan.matching());
        plan.lay(0, 4);
        due("matching() on no empty page", 0, () -> plan.matching());
        plan.undo();
        plan.print(0);
        due("matching() on a printed form", 0, () -> plan.matching());
        told("Promise 39", "a page whose reason is 0 or 6");
        FlatPlan rivals = loaded("plan 1 4;" + "ad 4 1 0 0 1 0;".repeat(4) + "ad 1 1 0 0 1 0;put 4 3;");
        due("reason(0, 2)", 6, () -> rivals.reason(0, 2));
        due("matching() beside a rival", 3, () -> rivals.matching());
        FlatPlan sides = loaded("plan 1 4;color 0;" + "ad 4 0 0 1 1 0;".repeat(3) + "ad 4 0 1 2 1 0;".repeat(3));
        due("matching() by side and color", 3, () -> sides.matching());
    }

    private void greatestMatching() {
        told("Promise 39", "the greatest number of pairs of such an ad and a page");
        // An ad for any page, one for right pages, one for page 1 alone: whichever comes first makes way.
        String[] ads = {"ad 4 0 0 0 1 0;", "ad 4 0 0 2 1 0;", "ad 4 0 1 2 1 0;"};
        int[][] orders = {{0, 1, 2}, {0, 2, 1}, {1, 0, 2}, {1, 2, 0}, {2, 0, 1}, {2, 1, 0}};
        for (int[] order : orders) {
            FlatPlan plan = loaded("plan 1 4;color 0;" + ads[order[0]] + ads[order[1]] + ads[order[2]] + "standby 1;standby 1;");
            plan.use(0, 2);
            due("matching() of three on three", 3, () -> plan.matching());
            plan.use(1, 4);
            due("matching() of three on two", 2, () -> plan.matching());
        }
        // What was matched once does not matter the next time.
        FlatPlan again = loaded("plan 1 4;color 0;" + ads[0] + ads[1] + "ad 4 0 1 1 1 0;put 0 4;");
        due("matching() of one on three", 1, () -> again.matching());
        again.take(0);
        again.setAd(2, true, 2);
        due("matching() of three on four", 3, () -> again.matching());
        // Color is on 39 pages up to 48; the 39th ad has the last of them and makes way for the 40th one.
        FlatPlan most = loaded("plan 4 16;color 0;color 1;color 2;color 3;color 4;" + "ad 4 0 1 0 1 0;".repeat(38)
                + "ad 4 0 0 0 1 0;ad 4 0 1 0 1 0;standby 4;");
        most.use(0, 1);
        most.print(5);
        due("matching() of 40, the last one through all others", 40, () -> most.matching());
        String any = "ad 4 0 0 0 1 0;";
        String right = "ad 4 0 0 2 1 0;";
        String first = "ad 4 0 1 2 1 0;";
        int[] all = {4, 3, 3};
        matchingInAnyOrder(all, any, "ad 4 0 1 0 1 0;", "ad 4 0 0 1 1 0;", right, first);
        matchingInAnyOrder(all, any, any, right, first, "ad 4 0 1 0 1 0;");
        matchingInAnyOrder(all, any, any, any, right, first);
        matchingInAnyOrder(new int[] {3, 3, 2}, any, first, first, right, right);
        matchingInAnyOrder(new int[] {2, 2, 1}, any, first, first, first, first);
        told("Promise 39", "no ad and no page in two of them.");
        due("matching() of two for page 1", 1, () -> loaded("plan 1 4;color 0;" + ads[2] + ads[2]).matching());
        due("matching() of one for 16 pages", 1, () -> loaded(ads[0]).matching());
    }

    /** Five ads in every order, for four pages, for 1, 3 and 4, and for 2, 3 and 4. */
    private void matchingInAnyOrder(int[] due, String... kinds) {
        for (int order = 0; order < 120; order++) {
            List<String> left = new ArrayList<>(List.of(kinds));
            StringBuilder text = new StringBuilder("plan 1 4;color 0;");
            int rest = order;
            for (int number = 5; number >= 1; number--) {
                text.append(left.remove(rest % number));
                rest /= number;
            }
            FlatPlan plan = loaded(text.append("standby 1;").toString());
            due("matching() of " + text + " on four pages", due[0], () -> plan.matching());
            plan.use(0, 2);
            due("matching() of " + text + " on 1, 3 and 4", due[1], () -> plan.matching());
            plan.use(0, 1);
            due("matching() of " + text + " on 2, 3 and 4", due[2], () -> plan.matching());
        }
    }

    private void bestColor() {
        told("Promise 40", "`forms`: 1 to 8: how many forms");
        FlatPlan plan = loaded("plan 4 4;");
        inOrder("bestColor(1 +)", new int[] {1, 3, 7, 15, 31, 63, 127, 255}, k -> plan.bestColor(k + 1));
        told("Promise 40", "Throws `IllegalArgumentException` if forms is out of range");
        for (int forms : new int[] {LEAST, -1, 0, 9, GREATEST}) {
            due("bestColor(" + forms + ")", NO_ARGUMENT, () -> plan.bestColor(forms));
        }
        told("Promise 40", "Returns the sum of 2^f over these forms f, of several the least; 0 if there are not so many.");
        for (int g = 1; g <= 4; g++) {
            FlatPlan all = loaded("plan " + g + " 4;");
            int forms = 2 * g;
            due("bestColor of all", (1 << forms) - 1, () -> all.bestColor(forms));
            if (forms < 8) {
                due("bestColor of one more", 0, () -> all.bestColor(forms + 1));
                due("bestColor(8)", 0, () -> all.bestColor(8));
            }
            all.print(0);
            due("bestColor of all but a printed one", (1 << forms) - 2, () -> all.bestColor(forms - 1));
            due("bestColor of all", 0, () -> all.bestColor(forms));
            all.setColor(forms - 1, true);
            due("bestColor of all but a printed and a color one", 0, () -> all.bestColor(forms - 1));
            due("bestColor of one", g == 1 ? 0 : 2, () -> all.bestColor(1));
        }
    }

    private void bestColorSets() {
        told("Promise 40", "Finds the set of some open forms that have no color on which most quarters are left.");
        // Left on the forms: 8, 7, 8, 6, 7, 8
        FlatPlan plan = loaded("plan 3 4;" + AD + AD + "ad 2 0 0 0 1 0;put 0 2;put 1 9;put 2 6;");
        inOrder("bestColor(1 +)", new int[] {1, 5, 37, 39, 55, 63, 0, 0}, k -> plan.bestColor(k + 1));
        plan.setColor(0, true);
        inOrder("bestColor(1 +)", new int[] {4, 36, 38, 54, 62, 0, 0, 0}, k -> plan.bestColor(k + 1));
        plan.print(5);
        inOrder("bestColor(1 +)", new int[] {4, 6, 22, 30, 0, 0, 0, 0}, k -> plan.bestColor(k + 1));
        FlatPlan full = loaded("plan 1 4;story 4 0 0 0;lay 0 1;");
        due("bestColor(1) of full forms", 1, () -> full.bestColor(1));
        due("bestColor(2) of full forms", 3, () -> full.bestColor(2));
    }

    // ---- promises 49 to 53

    private void lateItem() {
        String text = "plan 2 4;ad 1 0 0 0 1 2;ad 1 0 0 0 1 9999;ad 1 0 0 0 1 1;ad 1 0 0 0 1 0;ad 1 0 0 0 1 7;story 2 0 0 3;"
                + "story 1 0 0 1;story 1 0 0 0;story 1 0 0 8;put 0 1;put 1 1;put 2 1;put 3 1;lay 0 3;lay 1 5;lay 2 6;";
        told("Promise 49", "`k`: from 0");
        FlatPlan plan = loaded(text);
        inOrder("lateItem", new int[] {2, 101, 0, 100, 1, -1, -1}, k -> plan.lateItem(k));
        told("Promise 49", "Returns the number of an ad, or 100 plus that of a story; NONE if there are not so many.");
        for (int k : new int[] {LEAST, -1, 5, 49, 50, 51, GREATEST}) {
            due("lateItem(" + k + ")", -1, () -> plan.lateItem(k));
        }
        due("lateItem(0) of a new plan", -1, () -> new FlatPlan().lateItem(0));
        told("Promise 49", "Returns the k-th late item of those that are placed and have a page on an open form");
        plan.pass(1);
        inOrder("lateItem at 1", new int[] {0, 100, 1, -1}, k -> plan.lateItem(k));
        plan.take(0);
        plan.takeStory(0);
        inOrder("lateItem with two taken", new int[] {1, -1}, k -> plan.lateItem(k));
        plan.put(4, 2);
        inOrder("lateItem with another one", new int[] {4, 1, -1}, k -> plan.lateItem(k));
        FlatPlan full = loaded("plan 4 16;" + "ad 1 0 0 0 1 9999;".repeat(40) + "story 1 0 0 9999;".repeat(10));
        full.placeAds();
        full.layStories();
        due("lateItem(0) of 50", 0, () -> full.lateItem(0));
        due("lateItem(39) of 50", 39, () -> full.lateItem(39));
        due("lateItem(40) of 50", 100, () -> full.lateItem(40));
        due("lateItem(49) of 50", 109, () -> full.lateItem(49));
        due("lateItem(50) of 50", -1, () -> full.lateItem(50));
    }

    private void lateItemsOnATie() {
        told("Promise 49", "by the time from which on they are ready, on a tie ads before stories, then by number.");
        FlatPlan plan = loaded("plan 1 16;story 1 0 0 5;story 1 0 0 4;story 1 0 0 5;ad 1 0 0 0 9 5;ad 1 0 0 0 1 6;ad 1 0 0 0 5 5;"
                + "ad 1 0 0 0 1 4;ad 1 0 0 0 7 5;lay 2 1;lay 1 2;lay 0 3;put 4 16;put 3 15;put 2 14;put 1 13;put 0 12;");
        inOrder("lateItem", new int[] {3, 101, 0, 2, 4, 100, 102, 1, -1}, k -> plan.lateItem(k));
    }

    private void lastReady() {
        told("Promise 50", "Returns the number of an ad, or 100 plus that of a story; on a tie an ad comes first, then the lower"
                + " number; NONE if there is none.");
        due("lastReady() of a new plan", -1, () -> new FlatPlan().lastReady());
        FlatPlan plan = loaded("plan 1 8;ad 1 0 0 0 1 0;ad 1 0 0 0 1 0;ad 1 0 0 0 1 5;ad 1 0 0 0 1 5;story 1 0 0 0;story 1 0 0 5;"
                + "story 1 0 0 5;story 1 0 0 6;");
        due("lastReady() when nothing is placed", -1, () -> plan.lastReady());
        plan.lay(0, 1);
        due("lastReady() of a story ready at 0", 100, () -> plan.lastReady());
        plan.put(1, 2);
        due("lastReady(), an ad before a story", 1, () -> plan.lastReady());
        plan.put(0, 3);
        due("lastReady(), the lower number", 0, () -> plan.lastReady());
        plan.lay(2, 4);
        due("lastReady() of a later story", 102, () -> plan.lastReady());
        plan.lay(1, 5);
        due("lastReady(), the lower number", 101, () -> plan.lastReady());
        plan.put(3, 6);
        due("lastReady(), an ad before a story", 3, () -> plan.lastReady());
        plan.put(2, 6);
        due("lastReady(), the lower number", 2, () -> plan.lastReady());
        plan.lay(3, 7);
        due("lastReady(), the latest", 103, () -> plan.lastReady());
        told("Promise 50", "of the ads that stand on an open form and the stories of which some page is on an open form");
        FlatPlan some = loaded("plan 1 8;ad 1 0 0 0 1 2;ad 1 0 0 0 1 0;story 2 0 0 1;story 1 0 0 2;put 0 1;put 1 2;lay 0 3;lay 1 5;");
        due("lastReady()", 0, () -> some.lastReady());
        some.pass(2);
        some.print(0);
        due("lastReady() with one page on the open form", 100, () -> some.lastReady());
        some.takeStory(0);
        due("lastReady() of a story half printed that stays", 100, () -> some.lastReady());
        some.print(1);
        due("lastReady() when all is printed", -1, () -> some.lastReady());
    }

    private void betterExchange() {
        told("Promise 51", "Returns 100 times the first page plus the other one, of several pairs the least;"
                + " NONE if no exchange makes it less.");
        due("betterExchange() of a new plan", -1, () -> new FlatPlan().betterExchange());
        String colors = "color 0;color 1;color 2;color 3;";
        due("betterExchange() of one color ad", -1, () -> loaded("plan 2 4;" + colors + "ad 1 0 1 0 1 0;put 0 1;").betterExchange());
        String two = "ad 1 0 1 0 1 0;ad 1 0 1 0 1 0;";
        due("betterExchange() of two on one form", -1,
                () -> loaded("plan 2 4;" + colors + two + "put 0 1;put 1 4;").betterExchange());
        due("betterExchange() of two forms", 102, () -> loaded("plan 2 4;" + colors + two + "put 0 1;put 1 3;").betterExchange());
        due("betterExchange() of 1 and 2", 103, () -> loaded("plan 2 4;" + colors + two + "put 0 1;put 1 2;").betterExchange());
        due("betterExchange() of 7 and 8", 506, () -> loaded("plan 2 4;" + colors + two + "put 0 6;put 1 8;").betterExchange());
        due("betterExchange() of the last pages", 708,
                () -> loaded("plan 2 4;" + colors + two + STORY + "put 0 6;put 1 8;lay 0 5;").betterExchange());
        String color = "color 0;color 1;color 2;color 3;color 4;color 5;color 6;color 7;";
        FlatPlan large = loaded("plan 4 16;" + color + "ad 1 0 1 0 1 0;ad 1 0 1 0 1 0;put 0 63;put 1 64;");
        due("betterExchange() of 64 pages", 4963, () -> large.betterExchange());
        due("betterExchange() of 63 and 64", 6364, () -> loaded("plan 4 16;" + color + "ad 1 0 1 0 1 0;ad 1 0 1 0 1 0;story 8 0 0 0;"
                + "story 5 0 0 0;put 0 62;put 1 64;lay 0 49;lay 1 57;").betterExchange());
        due("betterExchange() of ads without color", -1,
                () -> loaded("plan 2 4;" + colors + AD + AD + "put 0 1;put 1 3;").betterExchange());
        FlatPlan twice = loaded("plan 2 4;" + colors + two + "put 0 1;put 1 3;");
        due("betterExchange() of two forms", 102, () -> twice.betterExchange());
        twice.take(0);
        due("betterExchange() of the one that is left", -1, () -> twice.betterExchange());
        told("Promise 51", "so that the number of forms with an item with color becomes least.");
        FlatPlan story = loaded("plan 2 4;" + colors + two + "story 1 1 0 0;put 0 1;lay 0 2;");
        due("betterExchange() to the form of a story", 103, () -> story.betterExchange());
        due("betterExchange() to the form of a story without color", -1,
                () -> loaded("plan 2 4;" + colors + two + STORY + "put 0 1;lay 0 2;").betterExchange());
        due("betterExchange() to the form of a long story", 105,
                () -> loaded("plan 2 4;" + colors + two + "story 3 1 0 0;put 0 1;lay 0 6;").betterExchange());
        FlatPlan three = loaded("plan 2 4;" + colors + two + "story 1 1 0 0;story 1 0 0 0;put 0 1;put 1 4;lay 0 2;lay 1 3;");
        due("betterExchange(), two on a form and a story", -1, () -> three.betterExchange());
        three.take(1);
        due("betterExchange(), the story's form cannot be left", -1, () -> three.betterExchange());
    }

    private void betterExchangeThatCannotBe() {
        told("Promise 51", "Finds two pages that can be exchanged (the first one less than the other one)");
        // Color on 1 and 2: 3 would take the ad of 1, 4 that of 2.
        String text = "plan 1 4;color 0;color 1;ad 1 0 1 0 1 0;ad 1 0 1 0 1 0;put 0 1;put 1 2;";
        due("betterExchange()", 103, () -> loaded(text).betterExchange());
        due("betterExchange() with a story on 3", 204, () -> loaded(text + STORY + "lay 0 3;").betterExchange());
        due("betterExchange() with stories on 3 and 4", -1,
                () -> loaded(text + "story 2 0 0 0;lay 0 3;").betterExchange());
        FlatPlan printed = loaded(text);
        printed.print(1);
        due("betterExchange() with a printed form", -1, () -> printed.betterExchange());
        // Color on 1 and 3: 2 would take the ad of 1, but it stands right; 4 that of 3.
        String sides = "plan 1 4;color 0;color 1;ad 1 0 1 0 1 0;ad 1 0 1 2 1 0;ad 1 0 1 2 1 0;";
        due("betterExchange() of ads for any side", 102, () -> loaded(sides + "put 0 1;put 1 3;").betterExchange());
        due("betterExchange() with a right ad on 1", 304, () -> loaded(sides + "put 0 3;put 1 1;").betterExchange());
        due("betterExchange() of right ads", -1, () -> loaded(sides + "put 1 1;put 2 3;").betterExchange());
        // On 2 the ad of 1 would stand beside its rival on 3.
        FlatPlan rival = loaded("plan 1 4;color 0;color 1;ad 1 1 1 0 1 0;ad 1 0 1 0 1 0;ad 1 1 0 0 1 0;put 0 1;put 1 3;put 2 3;");
        due("betterExchange() beside a rival", 304, () -> rival.betterExchange());
        rival.take(2);
        due("betterExchange() without the rival", 102, () -> rival.betterExchange());
    }

    private void emptyRun() {
        told("Promise 52", "`length`: 1 to 64");
        FlatPlan large = loaded("plan 4 16;");
        for (int length : new int[] {1, 2, 63, 64}) {
            due("emptyRun(" + length + ") of 64 empty pages", 1, () -> large.emptyRun(length));
        }
        told("Promise 52", "Throws `IllegalArgumentException` if length is out of range");
        for (int length : new int[] {LEAST, -1, 0, 65, GREATEST}) {
            due("emptyRun(" + length + ")", NO_ARGUMENT, () -> large.emptyRun(length));
        }
        told("Promise 52", "Returns the page; NONE if there is none.");
        FlatPlan plan = loaded("plan 2 4;");
        due("emptyRun(8) of 8 pages", 1, () -> plan.emptyRun(8));
        due("emptyRun(9) of 8 pages", -1, () -> plan.emptyRun(9));
        due("emptyRun(64) of 8 pages", -1, () -> plan.emptyRun(64));
        FlatPlan full = loaded("plan 1 4;story 4 0 0 0;lay 0 1;");
        due("emptyRun(1) of a full plan", -1, () -> full.emptyRun(1));
        told("Promise 52", "Finds the first page from which on some pages that follow each other are empty (4 quarters left each).");
        // Not empty: 1, 4, 6 and, of 10 pages, none behind; runs of 2, 1 and 6
        FlatPlan runs = loaded("plan 3 4;" + AD + STORY + "standby 1;put 0 1;lay 0 4;");
        runs.use(0, 6);
        inOrder("emptyRun(1 +)", new int[] {2, 2, 7, 7, 7, 7, -1, -1}, k -> runs.emptyRun(k + 1));
        FlatPlan last = loaded("plan 1 4;story 3 0 0 0;lay 0 1;");
        due("emptyRun(1) on the last page", 4, () -> last.emptyRun(1));
        due("emptyRun(2) on the last page", -1, () -> last.emptyRun(2));
    }

    private void emptiest() {
        told("Promise 53", "`k`: from 0");
        FlatPlan plan = loaded("plan 1 8;ad 4 0 0 0 1 0;ad 2 0 0 0 1 0;ad 1 0 0 0 1 0;ad 2 0 0 0 1 0;ad 1 0 0 0 1 0;ad 1 0 0 0 1 0;"
                + STORY + "put 0 1;put 1 2;put 2 2;put 3 3;put 4 4;put 5 8;lay 0 6;");
        inOrder("emptiest", new int[] {5, 7, 4, 8, 3, 2, 1, 6, -1, -1}, k -> plan.emptiest(k));
        told("Promise 53", "Returns the page; NONE if there are not so many.");
        for (int k : new int[] {LEAST, -1, 8, 9, GREATEST}) {
            due("emptiest(" + k + ")", -1, () -> plan.emptiest(k));
        }
        FlatPlan large = loaded("plan 4 16;");
        due("emptiest(0) of 64 empty pages", 1, () -> large.emptiest(0));
        due("emptiest(63) of 64 empty pages", 64, () -> large.emptiest(63));
        due("emptiest(64) of 64 empty pages", -1, () -> large.emptiest(64));
        told("Promise 53", "the most first, on a tie by number");
        FlatPlan full = loaded("plan 1 4;story 4 0 0 0;lay 0 1;");
        inOrder("emptiest of full pages", new int[] {1, 2, 3, 4, -1}, k -> full.emptiest(k));
    }
}
