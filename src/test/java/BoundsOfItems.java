/** Boundary cases of PAGES, ITEMS and promises 1 and 7 to 17. */
final class BoundsOfItems extends Bounds {
    private static final int[] SIGNATURES = {1, 2, 3, 4};
    private static final int[] SIGNATURE_PAGES = {4, 8, 16};
    private static final String AD = "ad 1 0 0 0 1 0;";

    BoundsOfItems(Check check) {
        super(check);
    }

    @Override
    void run() {
        constants();
        newObject();
        signatures();
        pageNumbers();
        quarters();
        spreads();
        sides();
        forms();
        formsAtFirst();
        numbersOfItems();
        propertiesOfItems();
        placesOfItems();
        lateness();
        count();
        addAd();
        fullOfAds();
        setAd();
        setPrice();
        ad();
        story();
        standby();
        page();
        adOn();
        form();
        formClosing();
        formItems();
        pageOf();
    }

    private static String planOf(int signatures, int pages) {
        return "plan " + signatures + " " + pages + ";";
    }

    private void constants() {
        told("Constants", "`NONE = -1`: There is none.");
        due("NONE", -1, () -> FlatPlan.NONE);
        told("Constants", "`FULL = -2`: Error code: there is no room for more.");
        due("FULL", -2, () -> FlatPlan.FULL);
        told("Constants", "`TEXT_ERROR = -3`: Error code: the text has an error.");
        due("TEXT_ERROR", -3, () -> FlatPlan.TEXT_ERROR);
        told("Constants", "`REFUSED = -4`: Error code: this is not possible.");
        due("REFUSED", -4, () -> FlatPlan.REFUSED);
    }

    private void newObject() {
        told("Promise 1", "Creates a plan with one signature of 16 pages, without items.");
        check.same("a new plan", Snapshot.of(new FlatPlan()), Snapshot.of(loaded("plan 1 16;")));
        FlatPlan plan = new FlatPlan();
        inOrder("count", new int[] {16, 1, 2, 0, 0, 0, 0, 0, 0, 0, 0, 0}, what -> plan.count(what));
        due("page(16, 3)", 4, () -> plan.page(16, 3));
        due("page(17, 3)", NO_INDEX, () -> plan.page(17, 3));
        due("form(1, 3)", 8, () -> plan.form(1, 3));
        due("form(2, 3)", NO_INDEX, () -> plan.form(2, 3));
        due("ad(0, 0)", NO_INDEX, () -> plan.ad(0, 0));
        due("story(0, 0)", NO_INDEX, () -> plan.story(0, 0));
        due("standby(0, 0)", NO_INDEX, () -> plan.standby(0, 0));
        due("undo()", false, () -> plan.undo());
        due("truncateInput(1)", -1, () -> plan.truncateInput(1));
        due("load() of nothing", 0, () -> plan.load());
    }

    // ---- PAGES

    private void signatures() {
        told("PAGES", "The magazine has G signatures (1 to 4, numbered from 0) of S pages (4, 8 or 16)");
        for (int g : SIGNATURES) {
            for (int s : SIGNATURE_PAGES) {
                FlatPlan plan = loaded(planOf(g, s));
                due("count(0) of " + planOf(g, s), g * s, () -> plan.count(0));
                due("count(1) of " + planOf(g, s), g, () -> plan.count(1));
                due("the first page's signature", 0, () -> plan.page(1, 1));
                due("the last page's signature", g - 1, () -> plan.page(g * s, 1));
            }
        }
        bad(planOf(0, 4), 2, 5);
        bad(planOf(5, 4), 2, 5);
        for (int s : new int[] {0, 3, 5, 7, 9, 12, 15, 17, 32}) {
            bad(planOf(1, s), 2, 7);
        }
        told("PAGES", "at first G is 1 and S is 16.");
        FlatPlan plan = new FlatPlan();
        due("count(1)", 1, () -> plan.count(1));
        due("count(0)", 16, () -> plan.count(0));
        due("page(16, 1)", 0, () -> plan.page(16, 1));
    }

    private void pageNumbers() {
        told("PAGES", "its pages are numbered from 1 to N = G * S, signature after signature");
        for (int g : SIGNATURES) {
            for (int s : SIGNATURE_PAGES) {
                FlatPlan plan = loaded(planOf(g, s));
                due("page(0, 1)", NO_INDEX, () -> plan.page(0, 1));
                due("page(N + 1, 1) of " + planOf(g, s), NO_INDEX, () -> plan.page(g * s + 1, 1));
                for (int page = 1; page <= g * s; page++) {
                    int one = page;
                    due("page(" + page + ", 1) of " + planOf(g, s), (page - 1) / s, () -> plan.page(one, 1));
                }
            }
        }
    }

    private void quarters() {
        told("PAGES", "A page has 4 quarters.");
        FlatPlan plan = loaded("plan 1 4;" + AD.repeat(5) + "standby 4;");
        for (int ad = 0; ad < 4; ad++) {
            int one = ad;
            due("page(1, 3) under " + ad, 4 - ad, () -> plan.page(1, 3));
            due("put(" + ad + ", 1)", 0, () -> plan.put(one, 1));
        }
        due("page(1, 3)", 0, () -> plan.page(1, 3));
        due("put of a fifth quarter", 3, () -> plan.put(4, 1));
        due("use of four quarters", 0, () -> plan.use(0, 4));
        due("put beside four quarters", 3, () -> plan.put(4, 4));
    }

    private void spreads() {
        told("PAGES", "The spread of page p is p / 2, rounded down; so page 1 and page N stand alone.");
        for (int s : SIGNATURE_PAGES) {
            FlatPlan plan = loaded(planOf(1, s) + "ad 1 9 0 0 1 0;ad 1 9 0 0 1 0;");
            for (int page = 1; page <= s; page++) {
                int one = page;
                due("page(" + page + ", 0)", page / 2, () -> plan.page(one, 0));
            }
            plan.put(0, 1);
            due("reason on 1 beside 1", 6, () -> plan.reason(1, 1));
            due("reason on 2 beside 1", 0, () -> plan.reason(1, 2));
            plan.put(0, s);
            due("reason on N beside N", 6, () -> plan.reason(1, s));
            due("reason on N - 1 beside N", 0, () -> plan.reason(1, s - 1));
            due("reason on 1 beside N", 0, () -> plan.reason(1, 1));
            plan.put(0, 2);
            due("reason on 1 beside 2", 0, () -> plan.reason(1, 1));
            due("reason on 3 beside 2", 6, () -> plan.reason(1, 3));
            due("reason on 4 beside 2", 0, () -> plan.reason(1, 4));
            plan.put(0, s - 1);
            due("reason on N beside N - 1", 0, () -> plan.reason(1, s));
            due("reason on N - 2 beside N - 1", 6, () -> plan.reason(1, s - 2));
        }
        FlatPlan large = loaded("plan 4 16;");
        due("page(64, 0)", 32, () -> large.page(64, 0));
        due("page(63, 0)", 31, () -> large.page(63, 0));
    }

    private void sides() {
        told("PAGES", "Odd pages are right pages, even ones left pages.");
        FlatPlan plan = loaded("plan 1 4;ad 1 0 0 0 1 0;ad 1 0 0 1 1 0;ad 1 0 0 2 1 0;");
        reasons(plan, 0, 0, 0, 0, 0);
        reasons(plan, 1, 5, 0, 5, 0);
        reasons(plan, 2, 0, 5, 0, 5);
    }

    private void forms() {
        told("PAGES", "There are 2 * G forms, numbered from 0.");
        for (int g : SIGNATURES) {
            FlatPlan plan = loaded(planOf(g, 4));
            due("count(2)", 2 * g, () -> plan.count(2));
            due("form(-1, 3)", NO_INDEX, () -> plan.form(-1, 3));
            due("form(0, 3)", 2, () -> plan.form(0, 3));
            due("form(2 * G - 1, 3)", 2, () -> plan.form(2 * g - 1, 3));
            due("form(2 * G, 3)", NO_INDEX, () -> plan.form(2 * g, 3));
        }
        told("PAGES", "The k-th page of signature g (k from 0) is printed by form 2 * g if k modulo 4 is 0 or 3,"
                + " otherwise by form 2 * g + 1.");
        int[] ofFour = {0, 1, 1, 0};
        for (int g : SIGNATURES) {
            for (int s : SIGNATURE_PAGES) {
                FlatPlan plan = loaded(planOf(g, s));
                for (int page = 1; page <= g * s; page++) {
                    int one = page;
                    int k = (page - 1) % s;
                    int due = 2 * ((page - 1) / s) + ofFour[k % 4];
                    due("page(" + page + ", 2) of " + planOf(g, s), due, () -> plan.page(one, 2));
                }
            }
        }
    }

    private void formsAtFirst() {
        told("PAGES", "A form has color or not (none has at first), and it is open (at first) or printed.");
        for (FlatPlan plan : new FlatPlan[] {new FlatPlan(), loaded("plan 4 4;")}) {
            due("count(10)", 0, () -> plan.count(10));
            due("count(11)", 0, () -> plan.count(11));
            for (int form = 0; form < plan.count(2); form++) {
                int one = form;
                due("form(" + form + ", 0)", 0, () -> plan.form(one, 0));
                due("form(" + form + ", 1)", 0, () -> plan.form(one, 1));
            }
        }
        told("PAGES", "An open form may have a closing time.");
        FlatPlan plan = loaded("plan 4 4;");
        for (int form = 0; form < 8; form++) {
            int one = form;
            due("form(" + form + ", 2)", -1, () -> plan.form(one, 2));
            due("setClosing(" + form + ", 9)", -1, () -> plan.setClosing(one, 9));
            due("form(" + form + ", 2)", 9, () -> plan.form(one, 2));
        }
    }

    // ---- ITEMS

    private void numbersOfItems() {
        told("ITEMS", "There are at most 40 ads, 10 stories and 8 standbys, each numbered from 0.");
        FlatPlan plan = loaded("plan 4 16;" + AD.repeat(40) + "story 1 0 0 0;".repeat(10) + "standby 1;".repeat(8));
        due("ad(-1, 0)", NO_INDEX, () -> plan.ad(-1, 0));
        due("ad(0, 0)", 1, () -> plan.ad(0, 0));
        due("ad(39, 0)", 1, () -> plan.ad(39, 0));
        due("ad(40, 0)", NO_INDEX, () -> plan.ad(40, 0));
        due("story(-1, 0)", NO_INDEX, () -> plan.story(-1, 0));
        due("story(0, 0)", 1, () -> plan.story(0, 0));
        due("story(9, 0)", 1, () -> plan.story(9, 0));
        due("story(10, 0)", NO_INDEX, () -> plan.story(10, 0));
        due("standby(-1, 0)", NO_INDEX, () -> plan.standby(-1, 0));
        due("standby(0, 0)", 1, () -> plan.standby(0, 0));
        due("standby(7, 0)", 1, () -> plan.standby(7, 0));
        due("standby(8, 0)", NO_INDEX, () -> plan.standby(8, 0));
        due("addAd of a 41st", -2, () -> plan.addAd(1, 0, 1, 0));
        due("put(39, 64)", 0, () -> plan.put(39, 64));
        due("lay(9, 63)", 0, () -> plan.lay(9, 63));
        due("use(7, 62)", 0, () -> plan.use(7, 62));
        lastItems();
        fullPlan();
        bad(AD.repeat(41), 3, 600);
        bad("story 1 0 0 0;".repeat(11), 3, 140);
        bad("standby 1;".repeat(9), 3, 80);
    }

    /** The last ad, story, standby and form are loaded, changed and brought back whole. */
    private void lastItems() {
        StringBuilder text = new StringBuilder("plan 4 16;color 6;color 7;close 7 9;" + AD.repeat(39) + "ad 4 9 1 2 999 9999;");
        text.append("story 1 0 0 0;".repeat(9)).append("story 8 1 2 9999;").append("standby 1;".repeat(7)).append("standby 4;");
        FlatPlan plan = loaded(text.append("put 39 63;lay 9 55;").toString());
        plan.use(7, 64);
        for (int i = 0; i < 2; i++) {
            inOrder("ad(39, what)", new int[] {4, 9, 1, 2, 999, 9999, 63, 1}, what -> plan.ad(39, what));
            inOrder("story(9, what)", new int[] {8, 1, 2, 9999, 55, 1}, what -> plan.story(9, what));
            inOrder("standby(7, what)", new int[] {4, 64}, what -> plan.standby(7, what));
            inOrder("form(7, what)", new int[] {1, 0, 9, 8, 12, 1, 2, 1}, what -> plan.form(7, what));
            plan.take(39);
            plan.setAd(39, false, 0);
            plan.setPrice(39, 1);
            plan.takeStory(9);
            plan.clear(64);
            plan.setColor(7, false);
            plan.setClosing(7, 5);
            plan.print(7);
            due("ad(39, 3)", 0, () -> plan.ad(39, 3));
            due("standby(7, 1)", -1, () -> plan.standby(7, 1));
            due("form(7, 1)", 1, () -> plan.form(7, 1));
            while (plan.undoCount() > 1) {
                plan.undo();
            }
        }
    }

    /** All that there can be at once: 40 ads on 10 pages, 10 stories, 8 standbys, 8 forms that close. */
    private void fullPlan() {
        StringBuilder text = new StringBuilder("plan 4 16;");
        for (int form = 0; form < 8; form++) {
            text.append("color ").append(form).append(";close ").append(form).append(" 5;");
        }
        text.append("ad 1 0 1 0 2 9;".repeat(39)).append("ad 1 9 1 0 2 9;").append("story 1 1 0 9;".repeat(10));
        FlatPlan plan = loaded(text.append("standby 1;".repeat(8)).toString());
        due("placeAds()", 40, () -> plan.placeAds());
        due("layStories()", 10, () -> plan.layStories());
        due("use(7, 64)", 0, () -> plan.use(7, 64));
        due("revenue()", 80, () -> plan.revenue());
        due("quarterPrice()", 2.0, () -> plan.quarterPrice());
        due("nearRivals()", 0, () -> plan.nearRivals());
        due("betterExchange()", -1, () -> plan.betterExchange());
        due("endangered()", 80, () -> plan.endangered());
        due("lastReady()", 0, () -> plan.lastReady());
        due("lateItem(49)", 109, () -> plan.lateItem(49));
        due("exchange(10, 64)", 0, () -> plan.exchange(10, 64));
        due("ad(39, 6)", 64, () -> plan.ad(39, 6));
        due("standby(7, 1)", 10, () -> plan.standby(7, 1));
        due("exchange(64, 20) with a story", 3, () -> plan.exchange(64, 20));
        due("clear(64)", 4, () -> plan.clear(64));
        due("undo()", true, () -> plan.undo());
        due("eviction(0, 64)", 2, () -> plan.eviction(0, 64));
        due("pass(5)", 8, () -> plan.pass(5));
        due("lost()", 80, () -> plan.lost());
        due("count(7)", 0, () -> plan.count(7));
        due("count(8)", 0, () -> plan.count(8));
        inOrder("standby(k, 1)", new int[] {1, 1, 1, 1, 4, 4, 4, 10}, k -> plan.standby(k, 1));
    }

    private void propertiesOfItems() {
        told("ITEMS", "An ad has a size (1, 2 or 4 quarters), a group (0 to 9), color or not, a side (0 any, 1 left, 2 right),"
                + " a price (1 to 999) and the time from which on it is ready.");
        FlatPlan plan = loaded("ad 1 0 0 0 1 0;ad 2 1 0 1 2 1;ad 4 9 1 2 999 9999;story 1 0 0 0;story 8 1 2 9999;story 2 0 1 1;"
                + "standby 1;standby 2;standby 4;");
        inOrder("ad(0, what)", new int[] {1, 0, 0, 0, 1, 0}, what -> plan.ad(0, what));
        inOrder("ad(1, what)", new int[] {2, 1, 0, 1, 2, 1}, what -> plan.ad(1, what));
        inOrder("ad(2, what)", new int[] {4, 9, 1, 2, 999, 9999}, what -> plan.ad(2, what));
        told("ITEMS", "A story has a length (1 to 8 pages), color or not, a side (of its first page)"
                + " and the time from which on it is ready.");
        inOrder("story(0, what)", new int[] {1, 0, 0, 0}, what -> plan.story(0, what));
        inOrder("story(1, what)", new int[] {8, 1, 2, 9999}, what -> plan.story(1, what));
        inOrder("story(2, what)", new int[] {2, 0, 1, 1}, what -> plan.story(2, what));
        due("storyReason of a left story from 2 to 3", 0, () -> plan.storyReason(2, 2));
        due("storyReason of a left story from 3 to 4", 5, () -> plan.storyReason(2, 3));
        told("ITEMS", "A standby has a size.");
        inOrder("standby(k, 0)", new int[] {1, 2, 4}, k -> plan.standby(k, 0));
    }

    private void placesOfItems() {
        told("ITEMS", "A placed ad or a used standby stands on one page; a placed story takes pages that follow each other,"
                + " each one whole.");
        FlatPlan plan = loaded("plan 4 4;ad 1 0 0 0 1 0;story 8 0 0 0;story 1 0 0 0;standby 2;");
        plan.lay(0, 2);
        plan.lay(1, 10);
        int[] left = {4, 0, 0, 0, 0, 0, 0, 0, 0, 0, 4};
        int[] stories = {-1, 0, 0, 0, 0, 0, 0, 0, 0, 1, -1};
        inOrder("page(1 +, 3)", left, k -> plan.page(k + 1, 3));
        inOrder("page(1 +, 5)", stories, k -> plan.page(k + 1, 5));
        for (int page : new int[] {1, 11, 16}) {
            due("put(0, " + page + ")", 0, () -> plan.put(0, page));
            due("use(0, " + page + ")", 0, () -> plan.use(0, page));
        }
        due("page(1, 3)", 4, () -> plan.page(1, 3));
        due("page(11, 3)", 4, () -> plan.page(11, 3));
        due("page(16, 3)", 1, () -> plan.page(16, 3));
        due("lay(0, 9) to the end", 3, () -> plan.lay(0, 9));
        due("lay(1, 1)", 0, () -> plan.lay(1, 1));
        due("page(10, 3)", 4, () -> plan.page(10, 3));
    }

    private void lateness() {
        told("ITEMS", "An item is late if the present time is less than the time from which on it is ready.");
        FlatPlan plan = loaded("ad 1 0 0 0 1 0;ad 1 0 0 0 1 1;ad 1 0 0 0 1 2;ad 1 0 0 0 1 9999;"
                + "story 1 0 0 0;story 1 0 0 1;story 1 0 0 2;story 1 0 0 9999;");
        int[][] due = {{0, 1, 1, 1}, {0, 0, 1, 1}, {0, 0, 0, 1}};
        for (int time = 0; time < due.length; time++) {
            inOrder("ad(k, 7) at " + time, due[time], k -> plan.ad(k, 7));
            inOrder("story(k, 5) at " + time, due[time], k -> plan.story(k, 5));
            plan.pass(1);
        }
        for (int i = 0; i < 19; i++) {
            plan.pass(500);
        }
        plan.pass(495);
        due("count(6)", 9998, () -> plan.count(6));
        due("ad(3, 7) at 9998", 1, () -> plan.ad(3, 7));
        due("story(3, 5) at 9998", 1, () -> plan.story(3, 5));
        plan.pass(1);
        due("ad(3, 7) at 9999", 0, () -> plan.ad(3, 7));
        due("story(3, 5) at 9999", 0, () -> plan.story(3, 5));
    }

    // ---- promises 7 to 10

    private void count() {
        told("Promise 7", "`what`: 0 pages, 1 signatures, 2 forms, 3 ads, 4 stories, 5 standbys, 6 the time, 7 placed ads,"
                + " 8 placed stories, 9 used standbys, 10 printed forms, 11 forms with color");
        FlatPlan plan = loaded("plan 3 4;color 0;color 5;ad 1 0 0 0 1 0;ad 1 0 0 0 1 0;ad 1 0 0 0 1 0;ad 1 0 0 0 1 0;"
                + "story 1 0 0 0;story 1 0 0 0;story 1 0 0 0;standby 1;standby 1;put 0 1;put 3 12;put 1 2;lay 2 5;");
        plan.use(1, 6);
        plan.pass(7);
        plan.print(3);
        inOrder("count", new int[] {12, 3, 6, 4, 3, 2, 7, 3, 1, 1, 1, 2}, what -> plan.count(what));
        FlatPlan all = loaded("plan 4 16;color 0;color 1;color 2;color 3;color 4;color 5;color 6;color 7;" + AD.repeat(40)
                + "story 1 0 0 0;".repeat(10) + "standby 1;".repeat(8));
        all.placeAds();
        all.layStories();
        for (int i = 0; i < 8; i++) {
            all.use(i, 64);
            all.use(i, 40 + i);
        }
        for (int form = 0; form < 8; form++) {
            all.print(form);
        }
        inOrder("count of all", new int[] {64, 4, 8, 40, 10, 8, 0, 40, 10, 8, 8, 8}, what -> all.count(what));
        told("Promise 7", "Returns the number; NONE for any other what.");
        for (int what : new int[] {LEAST, -2, -1, 12, 13, GREATEST}) {
            due("count(" + what + ")", -1, () -> plan.count(what));
        }
    }

    private void addAd() {
        told("Promise 8", "Adds an ad without color for any side, a change.");
        changed(FlatPlan::new, "addAd(1, 0, 1, 0)", 0, plan -> plan.addAd(1, 0, 1, 0));
        changed(() -> loaded("plan 1 4;" + AD.repeat(39)), "addAd of a 40th", 39, plan -> plan.addAd(4, 9, 999, 9999));
        FlatPlan again = new FlatPlan();
        again.addAd(1, 0, 1, 0);
        again.setAd(0, true, 2);
        again.undo();
        again.undo();
        due("addAd in the place of another one", 0, () -> again.addAd(2, 3, 4, 5));
        inOrder("ad(0, what)", new int[] {2, 3, 0, 0, 4, 5, -1, 1, -1}, what -> again.ad(0, what));
        // Nor does anything stay of an ad of an earlier text.
        FlatPlan later = loaded("plan 1 4;color 0;ad 4 9 1 1 999 9999;put 0 4;");
        Check.append(later, "plan 1 4;");
        later.load();
        due("addAd behind a load", 0, () -> later.addAd(1, 0, 1, 0));
        inOrder("ad(0, what)", new int[] {1, 0, 0, 0, 1, 0, -1, 0, -1}, what -> later.ad(0, what));
        int[][] taken = {{1, 0, 1, 0}, {2, 0, 1, 0}, {4, 0, 1, 0}, {1, 9, 1, 0}, {1, 0, 999, 0}, {1, 0, 1, 9999}};
        int[][] wrong = {{0, 0, 1, 0}, {3, 0, 1, 0}, {5, 0, 1, 0}, {8, 0, 1, 0}, {-1, 0, 1, 0}, {-4, 0, 1, 0}, {LEAST, 0, 1, 0},
            {GREATEST, 0, 1, 0}, {1, -1, 1, 0}, {1, 10, 1, 0}, {1, LEAST, 1, 0}, {1, GREATEST, 1, 0}, {1, 0, 0, 0},
            {1, 0, 1000, 0}, {1, 0, -1, 0}, {1, 0, LEAST, 0}, {1, 0, GREATEST, 0}, {1, 0, 1, -1}, {1, 0, 1, 10000},
            {1, 0, 1, LEAST}, {1, 0, 1, GREATEST}};
        String[] ranges = {"`size`: 1, 2 or 4", "`group`: 0 to 9", "`price`: 1 to 999", "`ready`: 0 to 9999"};
        for (String range : ranges) {
            told("Promise 8", range);
            for (int[] a : taken) {
                FlatPlan plan = new FlatPlan();
                due("addAd(" + a[0] + ", " + a[1] + ", " + a[2] + ", " + a[3] + ")", 0, () -> plan.addAd(a[0], a[1], a[2], a[3]));
                inOrder("ad(0, what)", new int[] {a[0], a[1], 0, 0, a[2], a[3], -1, a[3] > 0 ? 1 : 0}, what -> plan.ad(0, what));
            }
        }
        told("Promise 8", "Throws `IllegalArgumentException` if a parameter is out of range");
        for (int[] a : wrong) {
            refused(() -> loaded(AD), "addAd(" + a[0] + ", " + a[1] + ", " + a[2] + ", " + a[3] + ")", NO_ARGUMENT,
                    plan -> plan.addAd(a[0], a[1], a[2], a[3]));
        }
    }

    private void fullOfAds() {
        told("Promise 8", "Returns its number; FULL if there are 40.");
        FlatPlan plan = new FlatPlan();
        for (int ad = 0; ad < 40; ad++) {
            due("addAd of one more", ad, () -> plan.addAd(1, 0, 1, 0));
        }
        due("addAd of a 41st", -2, () -> plan.addAd(1, 0, 1, 0));
        due("addAd of a wrong 41st", NO_ARGUMENT, () -> plan.addAd(3, 0, 1, 0));
        due("count(3)", 40, () -> plan.count(3));
        due("undo()", true, () -> plan.undo());
        due("count(3) after undo", 39, () -> plan.count(3));
        due("addAd after undo", 39, () -> plan.addAd(1, 0, 1, 0));
        due("addAd of a 41st", -2, () -> plan.addAd(1, 0, 1, 0));
        refused(() -> loaded("plan 1 4;" + AD.repeat(40)), "addAd of a 41st", -2, full -> full.addAd(1, 0, 1, 0));
    }

    private void setAd() {
        String text = "plan 1 4;ad 1 1 0 0 1 0;ad 1 1 1 2 1 0;ad 1 0 0 0 1 0;put 2 1;";
        told("Promise 9", "Sets whether an ad has color, and its side, a change.");
        changed(() -> loaded(text), "setAd(0, true, 2)", true, plan -> plan.setAd(0, true, 2));
        changed(() -> loaded(text), "setAd(1, false, 0)", true, plan -> plan.setAd(1, false, 0));
        changed(() -> loaded(text), "setAd(1, true, 2) as it is", true, plan -> plan.setAd(1, true, 2));
        told("Promise 9", "`side`: 0 to 2");
        FlatPlan plan = loaded(text);
        for (int side = 0; side <= 2; side++) {
            int one = side;
            due("setAd(0, true, " + side + ")", true, () -> plan.setAd(0, true, one));
            due("ad(0, 3)", side, () -> plan.ad(0, 3));
        }
        told("Promise 9", "`color`: whether it has color");
        due("ad(0, 2) with color", 1, () -> plan.ad(0, 2));
        due("setAd(0, false, 2)", true, () -> plan.setAd(0, false, 2));
        due("ad(0, 2) without color", 0, () -> plan.ad(0, 2));
        due("ad(0, 3) as it was", 2, () -> plan.ad(0, 3));
        told("Promise 9", "Returns true; false if it is placed.");
        refused(() -> loaded(text), "setAd of a placed ad", false, p -> p.setAd(2, true, 1));
        refused(() -> loaded(text), "setAd of a placed ad as it is", false, p -> p.setAd(2, false, 0));
        plan.take(2);
        due("setAd when it is taken", true, () -> plan.setAd(2, true, 1));
        told("Promise 9", "Throws `IndexOutOfBoundsException` if there is no such ad");
        for (int ad : new int[] {LEAST, -1, 3, 40, GREATEST}) {
            refused(() -> loaded(text), "setAd(" + ad + ", true, 0)", NO_INDEX, p -> p.setAd(ad, true, 0));
            refused(() -> loaded(text), "setAd(" + ad + ", true, 3)", NO_INDEX, p -> p.setAd(ad, true, 3));
        }
        told("Promise 9", "Throws `IllegalArgumentException` if side is out of range");
        for (int side : new int[] {LEAST, -1, 3, GREATEST}) {
            refused(() -> loaded(text), "setAd(0, true, " + side + ")", NO_ARGUMENT, p -> p.setAd(0, true, side));
            refused(() -> loaded(text), "setAd(2, true, " + side + ") of a placed ad", NO_ARGUMENT, p -> p.setAd(2, true, side));
        }
    }

    private void setPrice() {
        String text = "plan 1 4;ad 1 1 0 0 500 0;ad 1 1 1 2 1 0;put 0 1;";
        told("Promise 10", "Sets the price of an ad, a change.");
        changed(() -> loaded(text), "setPrice(0, 2)", 500, plan -> plan.setPrice(0, 2));
        changed(() -> loaded(text), "setPrice(0, 500) as it is", 500, plan -> plan.setPrice(0, 500));
        FlatPlan printed = loaded(text);
        printed.print(0);
        due("setPrice on a printed form", 500, () -> printed.setPrice(0, 3));
        told("Promise 10", "Returns the previous one.");
        FlatPlan plan = loaded(text);
        due("setPrice(1, 999)", 1, () -> plan.setPrice(1, 999));
        due("setPrice(1, 1)", 999, () -> plan.setPrice(1, 1));
        due("setPrice(1, 7)", 1, () -> plan.setPrice(1, 7));
        due("ad(0, 4)", 500, () -> plan.ad(0, 4));
        told("Promise 10", "`price`: 1 to 999");
        due("setPrice(1, 1)", 7, () -> plan.setPrice(1, 1));
        due("ad(1, 4)", 1, () -> plan.ad(1, 4));
        due("setPrice(1, 999)", 1, () -> plan.setPrice(1, 999));
        due("ad(1, 4)", 999, () -> plan.ad(1, 4));
        told("Promise 10", "Throws `IndexOutOfBoundsException` if there is no such ad");
        for (int ad : new int[] {LEAST, -1, 2, 40, GREATEST}) {
            refused(() -> loaded(text), "setPrice(" + ad + ", 1)", NO_INDEX, p -> p.setPrice(ad, 1));
            refused(() -> loaded(text), "setPrice(" + ad + ", 0)", NO_INDEX, p -> p.setPrice(ad, 0));
        }
        told("Promise 10", "Throws `IllegalArgumentException` if price is out of range");
        for (int price : new int[] {LEAST, -1, 0, 1000, GREATEST}) {
            refused(() -> loaded(text), "setPrice(0, " + price + ")", NO_ARGUMENT, p -> p.setPrice(0, price));
        }
    }

    // ---- promises 11 to 17

    private void ad() {
        told("Promise 11", "`what`: 0 size, 1 group, 2 color (1 or 0), 3 side, 4 price, 5 the time from which on it is ready,"
                + " 6 its page (NONE if it is not placed), 7 whether it is late (1 or 0)");
        FlatPlan plan = loaded("plan 4 16;color 7;ad 4 9 1 1 999 3;ad 1 0 0 0 1 0;");
        inOrder("ad(0, what)", new int[] {4, 9, 1, 1, 999, 3, -1, 1}, what -> plan.ad(0, what));
        inOrder("ad(1, what)", new int[] {1, 0, 0, 0, 1, 0, -1, 0}, what -> plan.ad(1, what));
        plan.put(0, 62);
        plan.put(1, 1);
        due("ad(0, 6)", 62, () -> plan.ad(0, 6));
        due("ad(1, 6)", 1, () -> plan.ad(1, 6));
        plan.pass(2);
        due("ad(0, 7) at 2", 1, () -> plan.ad(0, 7));
        plan.pass(1);
        due("ad(0, 7) at 3", 0, () -> plan.ad(0, 7));
        plan.take(0);
        due("ad(0, 6) when it is taken", -1, () -> plan.ad(0, 6));
        told("Promise 11", "Returns the value; NONE for any other what.");
        for (int what : new int[] {LEAST, -1, 8, GREATEST}) {
            due("ad(0, " + what + ")", -1, () -> plan.ad(0, what));
        }
        told("Promise 11", "Throws `IndexOutOfBoundsException` if there is no such ad");
        for (int ad : new int[] {LEAST, -1, 2, 39, 40, GREATEST}) {
            due("ad(" + ad + ", 0)", NO_INDEX, () -> plan.ad(ad, 0));
            due("ad(" + ad + ", 8)", NO_INDEX, () -> plan.ad(ad, 8));
        }
    }

    private void story() {
        told("Promise 12", "`what`: 0 length, 1 color (1 or 0), 2 side, 3 the time from which on it is ready,"
                + " 4 its first page (NONE if it is not placed), 5 whether it is late (1 or 0)");
        FlatPlan plan = loaded("plan 4 16;color 6;color 7;story 8 1 2 3;story 1 0 0 0;");
        inOrder("story(0, what)", new int[] {8, 1, 2, 3, -1, 1}, what -> plan.story(0, what));
        inOrder("story(1, what)", new int[] {1, 0, 0, 0, -1, 0}, what -> plan.story(1, what));
        plan.lay(0, 57);
        plan.lay(1, 1);
        due("story(0, 4)", 57, () -> plan.story(0, 4));
        due("story(1, 4)", 1, () -> plan.story(1, 4));
        plan.pass(2);
        due("story(0, 5) at 2", 1, () -> plan.story(0, 5));
        plan.pass(1);
        due("story(0, 5) at 3", 0, () -> plan.story(0, 5));
        plan.takeStory(0);
        due("story(0, 4) when it is taken", -1, () -> plan.story(0, 4));
        told("Promise 12", "Returns the value; NONE for any other what.");
        for (int what : new int[] {LEAST, -1, 6, 7, GREATEST}) {
            due("story(0, " + what + ")", -1, () -> plan.story(0, what));
        }
        told("Promise 12", "Throws `IndexOutOfBoundsException` if there is no such story");
        for (int story : new int[] {LEAST, -1, 2, 9, 10, GREATEST}) {
            due("story(" + story + ", 0)", NO_INDEX, () -> plan.story(story, 0));
            due("story(" + story + ", 6)", NO_INDEX, () -> plan.story(story, 6));
        }
    }

    private void standby() {
        told("Promise 13", "`what`: 0 size, 1 its page (NONE if it is not used)");
        FlatPlan plan = loaded("plan 4 16;standby 1;standby 4;");
        inOrder("standby(0, what)", new int[] {1, -1}, what -> plan.standby(0, what));
        inOrder("standby(1, what)", new int[] {4, -1}, what -> plan.standby(1, what));
        plan.use(0, 1);
        plan.use(1, 64);
        due("standby(0, 1)", 1, () -> plan.standby(0, 1));
        due("standby(1, 1)", 64, () -> plan.standby(1, 1));
        plan.clear(1);
        due("standby(0, 1) when it is removed", -1, () -> plan.standby(0, 1));
        told("Promise 13", "Returns the value; NONE for any other what.");
        for (int what : new int[] {LEAST, -1, 2, GREATEST}) {
            due("standby(1, " + what + ")", -1, () -> plan.standby(1, what));
        }
        told("Promise 13", "Throws `IndexOutOfBoundsException` if there is no such standby");
        for (int standby : new int[] {LEAST, -1, 2, 7, 8, GREATEST}) {
            due("standby(" + standby + ", 0)", NO_INDEX, () -> plan.standby(standby, 0));
            due("standby(" + standby + ", 2)", NO_INDEX, () -> plan.standby(standby, 2));
        }
    }

    private void page() {
        told("Promise 14", "`what`: 0 spread, 1 signature, 2 form, 3 quarters that are left, 4 number of ads on it,"
                + " 5 the story on it (NONE if there is none), 6 number of standbys on it");
        FlatPlan plan = loaded("plan 2 4;" + AD.repeat(4) + "standby 1;standby 1;standby 1;standby 1;story 1 0 0 0;"
                + "story 2 0 0 0;put 0 1;put 1 1;put 2 1;put 3 1;lay 0 8;lay 1 5;");
        for (int i = 0; i < 4; i++) {
            plan.use(i, 3);
        }
        inOrder("page(1, what)", new int[] {0, 0, 0, 0, 4, -1, 0}, what -> plan.page(1, what));
        inOrder("page(2, what)", new int[] {1, 0, 1, 4, 0, -1, 0}, what -> plan.page(2, what));
        inOrder("page(3, what)", new int[] {1, 0, 1, 0, 0, -1, 4}, what -> plan.page(3, what));
        inOrder("page(6, what)", new int[] {3, 1, 3, 0, 0, 1, 0}, what -> plan.page(6, what));
        inOrder("page(8, what)", new int[] {4, 1, 2, 0, 0, 0, 0}, what -> plan.page(8, what));
        told("Promise 14", "Returns the value; NONE for any other what.");
        for (int what : new int[] {LEAST, -1, 7, 8, GREATEST}) {
            due("page(1, " + what + ")", -1, () -> plan.page(1, what));
        }
        told("Promise 14", "Throws `IndexOutOfBoundsException` if there is no such page");
        for (int page : new int[] {LEAST, -1, 0, 9, 64, 65, GREATEST}) {
            due("page(" + page + ", 0)", NO_INDEX, () -> plan.page(page, 0));
            due("page(" + page + ", 7)", NO_INDEX, () -> plan.page(page, 7));
        }
        told("Promise 14", "`page`: 1 to N");
        FlatPlan large = loaded("plan 4 16;");
        due("page(1, 3)", 4, () -> large.page(1, 3));
        due("page(64, 3)", 4, () -> large.page(64, 3));
        due("page(65, 3)", NO_INDEX, () -> large.page(65, 3));
    }

    private void adOn() {
        told("Promise 15", "`index`: from 0, by ascending numbers");
        FlatPlan plan = loaded("plan 1 4;" + AD.repeat(40) + "standby 1;put 39 1;put 10 1;put 0 1;put 9 1;put 5 4;put 6 2;");
        plan.take(6);
        inOrder("adOn(1, index)", new int[] {0, 9, 10, 39, -1}, index -> plan.adOn(1, index));
        told("Promise 15", "Returns the ad; NONE if there are not so many.");
        due("adOn(4, 0)", 5, () -> plan.adOn(4, 0));
        due("adOn(4, 1)", -1, () -> plan.adOn(4, 1));
        due("adOn(2, 0)", -1, () -> plan.adOn(2, 0));
        plan.use(0, 3);
        due("adOn(3, 0) of a standby", -1, () -> plan.adOn(3, 0));
        for (int index : new int[] {LEAST, -1, 4, 40, GREATEST}) {
            due("adOn(1, " + index + ")", -1, () -> plan.adOn(1, index));
        }
        told("Promise 15", "Throws `IndexOutOfBoundsException` if there is no such page");
        for (int page : new int[] {LEAST, -1, 0, 5, 65, GREATEST}) {
            due("adOn(" + page + ", 0)", NO_INDEX, () -> plan.adOn(page, 0));
            due("adOn(" + page + ", -1)", NO_INDEX, () -> plan.adOn(page, -1));
        }
        told("Promise 15", "`page`: 1 to N");
        due("adOn(1, 0)", 0, () -> plan.adOn(1, 0));
        due("adOn(4, 0)", 5, () -> plan.adOn(4, 0));
    }

    private void form() {
        told("Promise 16", "`what`: 0 color (1 or 0), 1 whether it is printed (1 or 0)");
        FlatPlan plan = loaded("plan 1 16;color 1;");
        plan.print(0);
        due("form(0, 0)", 0, () -> plan.form(0, 0));
        due("form(1, 0)", 1, () -> plan.form(1, 0));
        due("form(0, 1)", 1, () -> plan.form(0, 1));
        due("form(1, 1)", 0, () -> plan.form(1, 1));
        told("Promise 16", "3 number of its pages, 4 quarters that are left on it, 5 number of ads on it");
        for (int s : SIGNATURE_PAGES) {
            FlatPlan empty = loaded(planOf(4, s));
            due("form(0, 3) of " + s, s / 2, () -> empty.form(0, 3));
            due("form(7, 3) of " + s, s / 2, () -> empty.form(7, 3));
            due("form(7, 4) of " + s, 2 * s, () -> empty.form(7, 4));
            due("form(7, 5) of " + s, 0, () -> empty.form(7, 5));
        }
        FlatPlan full = loaded("plan 1 4;" + AD.repeat(8) + "standby 4;story 1 0 0 0;lay 0 3;");
        for (int ad = 0; ad < 8; ad++) {
            full.put(ad, ad < 4 ? 1 : 4);
        }
        full.use(0, 2);
        due("form(0, 4) full of ads", 0, () -> full.form(0, 4));
        due("form(0, 5)", 8, () -> full.form(0, 5));
        due("form(1, 4) full of others", 0, () -> full.form(1, 4));
        due("form(1, 5)", 0, () -> full.form(1, 5));
        full.take(7);
        due("form(0, 4)", 1, () -> full.form(0, 4));
        due("form(0, 5)", 7, () -> full.form(0, 5));
        told("Promise 16", "Returns the value; NONE for any other what.");
        for (int what : new int[] {LEAST, -1, 8, GREATEST}) {
            due("form(0, " + what + ")", -1, () -> plan.form(0, what));
        }
        told("Promise 16", "Throws `IndexOutOfBoundsException` if there is no such form");
        for (int form : new int[] {LEAST, -1, 2, 8, GREATEST}) {
            due("form(" + form + ", 0)", NO_INDEX, () -> plan.form(form, 0));
            due("form(" + form + ", 8)", NO_INDEX, () -> plan.form(form, 8));
        }
    }

    private void formClosing() {
        told("Promise 16", "2 the closing time that it was told latest, also if it is printed (NONE if it was told none)");
        FlatPlan plan = loaded("plan 1 4;close 1 9999;");
        due("form(0, 2)", -1, () -> plan.form(0, 2));
        due("form(1, 2)", 9999, () -> plan.form(1, 2));
        plan.setClosing(1, 5);
        plan.setClosing(0, 7);
        due("form(1, 2) told less", 5, () -> plan.form(1, 2));
        plan.setClosing(1, 6);
        due("form(1, 2) told more", 6, () -> plan.form(1, 2));
        plan.pass(6);
        due("form(1, 2) closed", 6, () -> plan.form(1, 2));
        plan.print(0);
        due("form(0, 2) printed", 7, () -> plan.form(0, 2));
        due("setClosing(0, 9) printed", -4, () -> plan.setClosing(0, 9));
        due("form(0, 2) as before", 7, () -> plan.form(0, 2));
        FlatPlan untold = new FlatPlan();
        untold.print(0);
        due("form(0, 2) printed and told none", -1, () -> untold.form(0, 2));
    }

    private void formItems() {
        told("Promise 16", "6 number of late items with a page on it");
        // Story 0 has two pages on form 0 and two on form 1, story 1 one page on form 0.
        FlatPlan plan = loaded("plan 1 16;ad 1 0 0 0 1 2;ad 1 0 0 0 1 3;ad 1 0 0 0 1 9;story 4 0 0 2;story 1 0 0 1;"
                + "story 1 0 0 9;standby 1;put 0 1;put 1 1;lay 0 8;lay 1 12;");
        plan.use(0, 1);
        due("form(0, 6) at 0", 4, () -> plan.form(0, 6));
        due("form(1, 6) at 0", 1, () -> plan.form(1, 6));
        plan.pass(1);
        due("form(0, 6) at 1", 3, () -> plan.form(0, 6));
        plan.pass(1);
        due("form(0, 6) at 2", 1, () -> plan.form(0, 6));
        due("form(1, 6) at 2", 0, () -> plan.form(1, 6));
        plan.pass(1);
        due("form(0, 6) at 3", 0, () -> plan.form(0, 6));
        told("Promise 16", "7 whether an item with color has a page on it (1 or 0)");
        FlatPlan color = loaded("plan 2 4;color 0;color 1;color 2;color 3;ad 1 0 1 0 1 0;ad 1 0 1 0 1 0;ad 1 0 0 0 1 0;"
                + "story 2 1 0 0;story 1 0 0 0;put 0 1;put 2 2;lay 1 3;");
        inOrder("form(f, 7)", new int[] {1, 0, 0, 0}, f -> color.form(f, 7));
        color.lay(0, 4);
        color.take(0);
        inOrder("form(f, 7) of a story", new int[] {1, 0, 1, 0}, f -> color.form(f, 7));
        color.lay(0, 7);
        inOrder("form(f, 7) of a story", new int[] {0, 0, 1, 1}, f -> color.form(f, 7));
        color.takeStory(0);
        inOrder("form(f, 7) of none", new int[] {0, 0, 0, 0}, f -> color.form(f, 7));
    }

    private void pageOf() {
        told("Promise 17", "`index`: from 0, in ascending order");
        FlatPlan plan = loaded("plan 2 8;");
        inOrder("pageOf(0, index)", new int[] {1, 4, 5, 8}, index -> plan.pageOf(0, index));
        inOrder("pageOf(1, index)", new int[] {2, 3, 6, 7}, index -> plan.pageOf(1, index));
        inOrder("pageOf(2, index)", new int[] {9, 12, 13, 16}, index -> plan.pageOf(2, index));
        inOrder("pageOf(3, index)", new int[] {10, 11, 14, 15}, index -> plan.pageOf(3, index));
        told("Promise 17", "Returns the page; NONE if it has not so many.");
        for (int index : new int[] {LEAST, -1, 4, 8, GREATEST}) {
            due("pageOf(0, " + index + ")", -1, () -> plan.pageOf(0, index));
            due("pageOf(3, " + index + ")", -1, () -> plan.pageOf(3, index));
        }
        FlatPlan least = loaded("plan 1 4;");
        due("pageOf(0, 1) of 4 pages", 4, () -> least.pageOf(0, 1));
        due("pageOf(0, 2) of 4 pages", -1, () -> least.pageOf(0, 2));
        FlatPlan most = loaded("plan 4 16;");
        due("pageOf(6, 7) of 64 pages", 64, () -> most.pageOf(6, 7));
        due("pageOf(6, 8) of 64 pages", -1, () -> most.pageOf(6, 8));
        told("Promise 17", "Throws `IndexOutOfBoundsException` if there is no such form");
        for (int form : new int[] {LEAST, -1, 4, 8, GREATEST}) {
            due("pageOf(" + form + ", 0)", NO_INDEX, () -> plan.pageOf(form, 0));
            due("pageOf(" + form + ", -1)", NO_INDEX, () -> plan.pageOf(form, -1));
        }
    }
}
