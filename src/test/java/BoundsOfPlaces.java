import java.util.function.Supplier;

/** Boundary cases of REASONS and promises 18 to 26. */
final class BoundsOfPlaces extends Bounds {
    private static final String AD = "ad 1 0 0 0 1 0;";
    private static final String STORY = "story 1 0 0 0;";

    BoundsOfPlaces(Check check) {
        super(check);
    }

    @Override
    void run() {
        noSuchPage();
        printedForm();
        quartersLeft();
        colorOfForm();
        sideOfPage();
        rivals();
        lowestReason();
        itselfDoesNotMatter();
        storyPages();
        storyPrinted();
        storyOnEmptyPages();
        storyColor();
        storySide();
        storyLowestReason();
        storyItselfDoesNotMatter();
        reason();
        storyReason();
        put();
        putFromPrinted();
        lay();
        layFromPrinted();
        take();
        takeStory();
        use();
        useReasons();
        clear();
        exchange();
        exchangeOfOnePage();
        exchangeReasons();
        exchangeAndRivals();
        exchangeThrows();
    }

    /** A plan of 8 pages and this text whose form 0, pages 1, 4, 5 and 8, is printed. */
    private Supplier<FlatPlan> printed(String text) {
        return () -> {
            FlatPlan plan = loaded("plan 1 8;" + text);
            plan.print(0);
            return plan;
        };
    }

    // ---- REASONS of ads

    private void noSuchPage() {
        told("REASONS", "1 there is no such page");
        for (int[] size : new int[][] {{1, 4}, {1, 16}, {2, 8}, {4, 16}}) {
            int last = size[0] * size[1];
            FlatPlan plan = loaded("plan " + size[0] + " " + size[1] + ";" + AD);
            for (int page : new int[] {LEAST, -1, 0, last + 1, 65, GREATEST}) {
                due("reason(0, " + page + ") of " + last, 1, () -> plan.reason(0, page));
            }
            due("reason(0, 1) of " + last, 0, () -> plan.reason(0, 1));
            due("reason(0, N) of " + last, 0, () -> plan.reason(0, last));
        }
    }

    private void printedForm() {
        told("REASONS", "2 its form is printed");
        reasons(loaded("plan 1 8;" + AD), 0, 0, 0, 0, 0, 0, 0, 0, 0, 1);
        FlatPlan plan = printed(AD).get();
        reasons(plan, 0, 2, 0, 0, 2, 2, 0, 0, 2, 1);
        plan.print(1);
        reasons(plan, 0, 2, 2, 2, 2, 2, 2, 2, 2, 1);
        plan.undo();
        plan.undo();
        reasons(plan, 0, 0, 0, 0, 0, 0, 0, 0, 0, 1);
        FlatPlan closed = loaded("plan 1 4;close 1 2;" + AD);
        closed.pass(1);
        reasons(closed, 0, 0, 0, 0, 0);
        closed.pass(1);
        reasons(closed, 0, 0, 2, 2, 0);
    }

    private void quartersLeft() {
        told("REASONS", "3 there are not as many quarters left on it as the size of the ad (a page of a story has none left)");
        // 0 to 4 quarters are left on pages 1 to 5; a story takes 7 and 8.
        FlatPlan plan = loaded("plan 1 8;ad 1 0 0 0 1 0;ad 2 0 0 0 1 0;ad 4 0 0 0 1 0;ad 4 0 0 0 1 0;ad 2 0 0 0 1 0;"
                + "ad 1 0 0 0 1 0;ad 2 0 0 0 1 0;ad 1 0 0 0 1 0;story 2 0 0 0;put 3 1;put 4 2;put 5 2;put 6 3;put 7 4;lay 0 7;");
        inOrder("page(1 +, 3)", new int[] {0, 1, 2, 3, 4, 4, 0, 0}, k -> plan.page(k + 1, 3));
        reasons(plan, 0, 3, 0, 0, 0, 0, 0, 3, 3);
        reasons(plan, 1, 3, 3, 0, 0, 0, 0, 3, 3);
        reasons(plan, 2, 3, 3, 3, 3, 0, 0, 3, 3);
        FlatPlan standbys = loaded("plan 1 4;ad 1 0 0 0 1 0;ad 2 0 0 0 1 0;ad 4 0 0 0 1 0;standby 4;standby 2;standby 1;");
        standbys.use(0, 1);
        standbys.use(1, 2);
        standbys.use(2, 3);
        reasons(standbys, 0, 3, 0, 0, 0);
        reasons(standbys, 1, 3, 0, 0, 0);
        reasons(standbys, 2, 3, 3, 3, 0);
        standbys.use(2, 2);
        reasons(standbys, 0, 3, 0, 0, 0);
        reasons(standbys, 1, 3, 3, 0, 0);
    }

    private void colorOfForm() {
        told("REASONS", "4 the ad has color and the form has not");
        FlatPlan plan = loaded("plan 1 4;color 1;ad 1 0 1 0 1 0;ad 1 0 0 0 1 0;");
        reasons(plan, 0, 4, 0, 0, 4);
        reasons(plan, 1, 0, 0, 0, 0);
        plan.setColor(0, true);
        plan.setColor(1, false);
        reasons(plan, 0, 0, 4, 4, 0);
        reasons(plan, 1, 0, 0, 0, 0);
    }

    private void sideOfPage() {
        told("REASONS", "5 the page is not on the side of the ad");
        FlatPlan plan = loaded("plan 1 4;ad 1 0 0 0 1 0;ad 1 0 0 1 1 0;ad 1 0 0 2 1 0;");
        reasons(plan, 0, 0, 0, 0, 0, 1);
        reasons(plan, 1, 5, 0, 5, 0, 1);
        reasons(plan, 2, 0, 5, 0, 5, 1);
    }

    private void rivals() {
        told("REASONS", "6 the ad has a group other than 0, and another ad of this group stands on the spread");
        FlatPlan plan = loaded("plan 1 8;ad 1 0 0 0 1 0;ad 1 0 0 0 1 0;ad 1 1 0 0 1 0;ad 1 1 0 0 1 0;ad 1 9 0 0 1 0;"
                + "ad 1 9 0 0 1 0;ad 1 8 0 0 1 0;");
        for (int ad = 0; ad <= 6; ad++) {
            reasons(plan, ad, 0, 0, 0, 0, 0, 0, 0, 0, 1);
        }
        plan.put(0, 4);
        reasons(plan, 1, 0, 0, 0, 0, 0, 0, 0, 0, 1);
        plan.put(2, 4);
        reasons(plan, 3, 0, 0, 0, 6, 6, 0, 0, 0, 1);
        reasons(plan, 4, 0, 0, 0, 0, 0, 0, 0, 0, 1);
        plan.put(4, 1);
        reasons(plan, 5, 6, 0, 0, 0, 0, 0, 0, 0, 1);
        reasons(plan, 6, 0, 0, 0, 0, 0, 0, 0, 0, 1);
        plan.put(4, 8);
        reasons(plan, 5, 0, 0, 0, 0, 0, 0, 0, 6, 1);
        plan.put(4, 7);
        reasons(plan, 5, 0, 0, 0, 0, 0, 6, 6, 0, 1);
        // The same for one that stands elsewhere
        plan.put(5, 1);
        reasons(plan, 5, 0, 0, 0, 0, 0, 6, 6, 0, 1);
        plan.put(5, 2);
        reasons(plan, 5, 0, 0, 0, 0, 0, 6, 6, 0, 1);
        reasons(plan, 4, 0, 6, 6, 0, 0, 0, 0, 0, 1);
        plan.take(4);
        reasons(plan, 5, 0, 0, 0, 0, 0, 0, 0, 0, 1);
    }

    private void lowestReason() {
        told("REASONS", "of which the lowest that applies counts");
        // Ad 0 has color, stands right and has a rival on page 2; page 4 is full.
        FlatPlan plan = loaded("plan 1 4;ad 1 5 1 2 1 0;ad 1 5 0 0 1 0;ad 4 0 0 0 1 0;put 1 2;put 2 4;");
        reasons(plan, 0, 4, 4, 4, 3, 1);
        plan.setColor(1, true);
        reasons(plan, 0, 4, 5, 6, 3, 1);
        plan.setColor(0, true);
        reasons(plan, 0, 0, 5, 6, 3, 1);
        plan.print(0);
        reasons(plan, 0, 2, 5, 6, 2, 1);
        plan.print(1);
        reasons(plan, 0, 2, 2, 2, 2, 1);
        told("REASONS", "0 it can be put there.");
        FlatPlan free = loaded("plan 1 4;" + AD);
        for (int page = 1; page <= 4; page++) {
            int one = page;
            due("reason(0, " + page + ")", 0, () -> free.reason(0, one));
            due("put(0, " + page + ")", 0, () -> free.put(0, one));
        }
    }

    private void itselfDoesNotMatter() {
        told("REASONS", "Whether the ad itself stands somewhere does not matter; it is looked at as if it was not placed.");
        FlatPlan plan = loaded("plan 1 8;ad 4 0 0 0 1 0;ad 2 3 0 0 1 0;ad 2 0 0 0 1 0;ad 1 3 0 0 1 0;put 0 1;put 1 2;put 2 2;");
        reasons(plan, 0, 0, 3, 0, 0, 0, 0, 0, 0, 1);
        reasons(plan, 1, 3, 0, 0, 0, 0, 0, 0, 0, 1);
        reasons(plan, 2, 3, 0, 0, 0, 0, 0, 0, 0, 1);
        reasons(plan, 3, 3, 3, 6, 0, 0, 0, 0, 0, 1);
        // Not so for the form: the page where it stands is printed like the others of the form.
        plan.print(1);
        reasons(plan, 1, 3, 2, 2, 0, 0, 2, 2, 0, 1);
        reasons(plan, 0, 0, 2, 2, 0, 0, 2, 2, 0, 1);
    }

    // ---- REASONS of stories

    private void storyPages() {
        told("REASONS", "1 one of its pages would not exist");
        for (int length = 1; length <= 8; length++) {
            FlatPlan plan = loaded("plan 2 8;story " + length + " 0 0 0;");
            int last = 16 - length + 1;
            due("storyReason on 1", 0, () -> plan.storyReason(0, 1));
            due("storyReason on 0", 1, () -> plan.storyReason(0, 0));
            due("storyReason on -1", 1, () -> plan.storyReason(0, -1));
            due("storyReason of " + length + " on " + last, 0, () -> plan.storyReason(0, last));
            due("storyReason of " + length + " on " + (last + 1), 1, () -> plan.storyReason(0, last + 1));
            due("storyReason on 16", length == 1 ? 0 : 1, () -> plan.storyReason(0, 16));
            due("storyReason on 17", 1, () -> plan.storyReason(0, 17));
            due("storyReason on the least", 1, () -> plan.storyReason(0, LEAST));
            due("storyReason on the greatest", 1, () -> plan.storyReason(0, GREATEST));
            due("storyReason just below the greatest", 1, () -> plan.storyReason(0, GREATEST - 7));
        }
        FlatPlan small = loaded("plan 1 4;story 4 0 0 0;story 5 0 0 0;story 8 0 0 0;");
        storyReasons(small, 0, 0, 1, 1, 1, 1);
        storyReasons(small, 1, 1, 1, 1, 1, 1);
        storyReasons(small, 2, 1, 1, 1, 1, 1);
        FlatPlan large = loaded("plan 4 16;story 8 0 0 0;");
        due("storyReason on 57 of 64", 0, () -> large.storyReason(0, 57));
        due("storyReason on 58 of 64", 1, () -> large.storyReason(0, 58));
    }

    private void storyPrinted() {
        told("REASONS", "2 the form of one of them is printed");
        FlatPlan plan = printed("story 1 0 0 0;story 2 0 0 0;story 3 0 0 0;").get();
        storyReasons(plan, 0, 2, 0, 0, 2, 2, 0, 0, 2, 1);
        storyReasons(plan, 1, 2, 0, 2, 2, 2, 0, 2, 1, 1);
        storyReasons(plan, 2, 2, 2, 2, 2, 2, 2, 1, 1, 1);
    }

    private void storyOnEmptyPages() {
        told("REASONS", "3 one of them is not empty");
        FlatPlan plan = loaded("plan 1 16;story 1 0 0 0;story 3 0 0 0;story 2 0 0 0;" + AD + "standby 1;put 0 5;lay 2 12;");
        plan.use(0, 9);
        storyReasons(plan, 0, 0, 0, 0, 0, 3, 0, 0, 0, 3, 0, 0, 3, 3, 0, 0, 0, 1);
        storyReasons(plan, 1, 0, 0, 3, 3, 3, 0, 3, 3, 3, 3, 3, 3, 3, 0, 1, 1, 1);
        plan.take(0);
        plan.takeStory(2);
        plan.clear(9);
        storyReasons(plan, 1, 0, 0, 0, 0, 0, 0, 0, 0, 0, 0, 0, 0, 0, 0, 1, 1, 1);
    }

    private void storyColor() {
        told("REASONS", "4 the story has color, and the form of one of them has not");
        FlatPlan plan = loaded("plan 1 8;color 1;story 1 1 0 0;story 2 1 0 0;story 3 1 0 0;story 3 0 0 0;");
        storyReasons(plan, 0, 4, 0, 0, 4, 4, 0, 0, 4, 1);
        storyReasons(plan, 1, 4, 0, 4, 4, 4, 0, 4, 1, 1);
        storyReasons(plan, 2, 4, 4, 4, 4, 4, 4, 1, 1, 1);
        storyReasons(plan, 3, 0, 0, 0, 0, 0, 0, 1, 1, 1);
        plan.setColor(0, true);
        storyReasons(plan, 2, 0, 0, 0, 0, 0, 0, 1, 1, 1);
    }

    private void storySide() {
        told("REASONS", "5 its first page is not on its side");
        FlatPlan plan = loaded("plan 1 4;story 1 0 0 0;story 2 0 1 0;story 2 0 2 0;story 1 0 1 0;");
        storyReasons(plan, 0, 0, 0, 0, 0, 1);
        storyReasons(plan, 1, 5, 0, 5, 1, 1);
        storyReasons(plan, 2, 0, 5, 0, 1, 1);
        storyReasons(plan, 3, 5, 0, 5, 0, 1);
        told("REASONS", "0 it can be laid there");
        due("lay(1, 2)", 0, () -> plan.lay(1, 2));
        due("lay(2, 1)", 3, () -> plan.lay(2, 1));
        due("lay(3, 4)", 0, () -> plan.lay(3, 4));
    }

    private void storyLowestReason() {
        told("REASONS", "Why a story cannot be laid from a page on:");
        // The lowest reason of all its pages: page 3 is taken, form 1 has color, the story stands left.
        FlatPlan plan = loaded("plan 2 4;color 1;story 2 1 1 0;" + AD + "put 0 3;");
        storyReasons(plan, 0, 4, 3, 3, 4, 4, 4, 4, 1, 1);
        plan.setColor(0, true);
        storyReasons(plan, 0, 5, 3, 3, 4, 4, 4, 4, 1, 1);
        plan.setColor(3, true);
        storyReasons(plan, 0, 5, 3, 3, 4, 4, 0, 4, 1, 1);
        plan.setColor(2, true);
        storyReasons(plan, 0, 5, 3, 3, 0, 5, 0, 5, 1, 1);
        plan.print(2);
        storyReasons(plan, 0, 5, 3, 3, 2, 2, 0, 2, 1, 1);
        plan.print(0);
        storyReasons(plan, 0, 2, 3, 2, 2, 2, 0, 2, 1, 1);
    }

    private void storyItselfDoesNotMatter() {
        told("REASONS", "(it is looked at likewise as if it was not placed)");
        FlatPlan plan = loaded("plan 1 8;story 3 0 0 0;story 2 0 0 0;lay 0 3;lay 1 7;");
        storyReasons(plan, 0, 0, 0, 0, 0, 3, 3, 1, 1, 1);
        storyReasons(plan, 1, 0, 3, 3, 3, 3, 0, 0, 1, 1);
    }

    private void reason() {
        told("Promise 18", "`page`: any number");
        FlatPlan plan = loaded("plan 1 4;ad 1 0 0 0 1 0;ad 1 0 0 0 1 0;put 0 1;");
        int[] pages = {LEAST, LEAST + 1, -1, 0, 5, 64, 65, GREATEST - 1, GREATEST};
        for (int page : pages) {
            due("reason(0, " + page + ")", 1, () -> plan.reason(0, page));
            due("reason(1, " + page + ")", 1, () -> plan.reason(1, page));
        }
        told("Promise 18", "Throws `IndexOutOfBoundsException` if there is no such ad");
        for (int ad : new int[] {LEAST, -1, 2, 39, 40, GREATEST}) {
            due("reason(" + ad + ", 1)", NO_INDEX, () -> plan.reason(ad, 1));
            due("reason(" + ad + ", 0)", NO_INDEX, () -> plan.reason(ad, 0));
        }
        told("Promise 18", "Returns 0 to 6.");
        FlatPlan all = printed("color 1;ad 4 0 0 0 1 0;ad 1 3 0 0 1 0;ad 1 3 0 1 1 0;ad 1 0 1 0 1 0;put 0 3;put 1 7;").get();
        inOrder("reason(2, page)", new int[] {1, 2, 0, 3, 2, 2, 6, 5, 2, 1}, page -> all.reason(2, page));
        all.undo();
        due("reason(3, 1)", 4, () -> all.reason(3, 1));
    }

    private void storyReason() {
        told("Promise 19", "`page`: any number");
        FlatPlan plan = loaded("plan 1 4;story 1 0 0 0;story 8 0 0 0;lay 0 1;");
        for (int page : new int[] {LEAST, LEAST + 1, -8, -1, 0, 5, 64, 65, GREATEST - 7, GREATEST - 1, GREATEST}) {
            due("storyReason(0, " + page + ")", 1, () -> plan.storyReason(0, page));
            due("storyReason(1, " + page + ")", 1, () -> plan.storyReason(1, page));
        }
        told("Promise 19", "Throws `IndexOutOfBoundsException` if there is no such story");
        for (int story : new int[] {LEAST, -1, 2, 9, 10, GREATEST}) {
            due("storyReason(" + story + ", 1)", NO_INDEX, () -> plan.storyReason(story, 1));
            due("storyReason(" + story + ", 0)", NO_INDEX, () -> plan.storyReason(story, 0));
        }
        told("Promise 19", "Returns 0 to 5.");
        FlatPlan all = printed("story 1 1 1 0;color 1;" + AD + "put 0 2;").get();
        storyReasons(all, 0, 2, 3, 5, 2, 2, 0, 5, 2, 1);
        all.setColor(1, false);
        storyReasons(all, 0, 2, 3, 4, 2, 2, 4, 4, 2, 1);
    }

    // ---- promises 20 to 23

    private void put() {
        String text = "plan 1 8;color 0;ad 2 1 1 0 5 0;ad 1 1 0 0 5 0;ad 4 0 0 1 5 0;ad 1 0 0 0 5 0;put 0 1;put 3 1;";
        told("Promise 20", "Puts an ad on a page, a change. It may have stood on another page; then it leaves that one."
                + " Other ads stay.");
        changed(() -> loaded(text), "put(1, 8)", 0, plan -> plan.put(1, 8));
        changed(() -> loaded(text), "put(0, 8) from page 1", 0, plan -> plan.put(0, 8));
        changed(() -> loaded(text), "put(0, 1) where it stands", 0, plan -> plan.put(0, 1));
        FlatPlan plan = loaded(text);
        plan.put(0, 8);
        due("page(1, 3)", 3, () -> plan.page(1, 3));
        due("page(8, 3)", 2, () -> plan.page(8, 3));
        due("adOn(1, 0)", 3, () -> plan.adOn(1, 0));
        due("adOn(1, 1)", -1, () -> plan.adOn(1, 1));
        due("adOn(8, 0)", 0, () -> plan.adOn(8, 0));
        due("put(1, 1) where no rival stands any more", 0, () -> plan.put(1, 1));
        told("Promise 20", "Returns 0; otherwise the lowest number that applies: the reason why it cannot be put there,");
        refused(() -> loaded(text), "put(1, 0)", 1, p -> p.put(1, 0));
        refused(() -> loaded(text), "put(1, 9)", 1, p -> p.put(1, 9));
        refused(() -> loaded(text), "put(0, 2)", 4, p -> p.put(0, 2));
        refused(() -> loaded(text), "put(1, 1)", 6, p -> p.put(1, 1));
        refused(() -> loaded(text), "put(2, 1)", 3, p -> p.put(2, 1));
        refused(() -> loaded(text), "put(2, 3)", 5, p -> p.put(2, 3));
        refused(printed(AD), "put(0, 8) to a printed form", 2, p -> p.put(0, 8));
        told("Promise 20", "`page`: any number");
        for (int page : new int[] {LEAST, -1, 65, GREATEST}) {
            refused(() -> loaded(text), "put(0, " + page + ")", 1, p -> p.put(0, page));
        }
        told("Promise 20", "Throws `IndexOutOfBoundsException` if there is no such ad");
        for (int ad : new int[] {LEAST, -1, 4, 40, GREATEST}) {
            refused(() -> loaded(text), "put(" + ad + ", 2)", NO_INDEX, p -> p.put(ad, 2));
            refused(() -> loaded(text), "put(" + ad + ", 0)", NO_INDEX, p -> p.put(ad, 0));
        }
    }

    private void putFromPrinted() {
        told("Promise 20", "and 2 also if it stands on a page of a printed form.");
        // Ad 0 stands on printed page 1; 2 would be free, 3 full, 6 on the wrong side, 7 beside a rival.
        Supplier<FlatPlan> made = printed("color 0;ad 1 1 0 2 5 0;ad 4 0 0 0 5 0;ad 1 1 0 0 5 0;put 0 1;put 1 3;put 2 7;");
        due("reason(0, 2)", 5, () -> made.get().reason(0, 2));
        int[] due = {1, 2, 2, 2, 2, 2, 2, 2, 2, 1};
        for (int page = 0; page < due.length; page++) {
            int one = page;
            refused(made, "put(0, " + page + ") from a printed form", due[page], p -> p.put(0, one));
        }
        refused(printed("color 0;ad 1 0 1 0 5 0;put 0 4;"), "put of color without color", 2, p -> p.put(0, 2));
        refused(printed("ad 1 0 0 0 5 0;put 0 4;"), "put(0, 2)", 2, p -> p.put(0, 2));
        changed(() -> {
            FlatPlan open = made.get();
            open.undo();
            return open;
        }, "put(0, 5) from an open form", 0, p -> p.put(0, 5));
    }

    private void lay() {
        String text = "plan 1 8;story 2 0 1 0;story 2 1 0 0;" + AD + "put 0 5;lay 0 2;";
        told("Promise 21", "Lays a story from a page on, a change. It may have been laid elsewhere; then it leaves those pages.");
        changed(() -> loaded("plan 1 8;story 2 0 0 0;"), "lay(0, 7)", 0, plan -> plan.lay(0, 7));
        changed(() -> loaded(text), "lay(0, 6) from elsewhere", 0, plan -> plan.lay(0, 6));
        changed(() -> loaded(text), "lay(0, 2) where it is", 0, plan -> plan.lay(0, 2));
        FlatPlan plan = loaded("plan 1 8;story 3 0 0 0;lay 0 2;");
        due("lay(0, 3) over itself", 0, () -> plan.lay(0, 3));
        inOrder("page(1 +, 3)", new int[] {4, 4, 0, 0, 0, 4, 4, 4}, k -> plan.page(k + 1, 3));
        inOrder("page(1 +, 5)", new int[] {-1, -1, 0, 0, 0, -1, -1, -1}, k -> plan.page(k + 1, 5));
        told("Promise 21", "Returns 0; otherwise the lowest number that applies: the reason why it cannot be laid there,");
        refused(() -> loaded(text), "lay(0, 0)", 1, p -> p.lay(0, 0));
        refused(() -> loaded(text), "lay(0, 8)", 1, p -> p.lay(0, 8));
        refused(() -> loaded(text), "lay(0, 4)", 3, p -> p.lay(0, 4));
        refused(() -> loaded(text), "lay(1, 6)", 4, p -> p.lay(1, 6));
        refused(() -> loaded(text), "lay(0, 1)", 5, p -> p.lay(0, 1));
        refused(printed(STORY), "lay(0, 1) on a printed form", 2, p -> p.lay(0, 1));
        told("Promise 21", "`page`: any number");
        for (int page : new int[] {LEAST, -1, 9, 65, GREATEST}) {
            refused(() -> loaded(text), "lay(0, " + page + ")", 1, p -> p.lay(0, page));
        }
        told("Promise 21", "Throws `IndexOutOfBoundsException` if there is no such story");
        for (int story : new int[] {LEAST, -1, 2, 10, GREATEST}) {
            refused(() -> loaded(text), "lay(" + story + ", 6)", NO_INDEX, p -> p.lay(story, 6));
            refused(() -> loaded(text), "lay(" + story + ", 0)", NO_INDEX, p -> p.lay(story, 0));
        }
    }

    private void layFromPrinted() {
        told("Promise 21", "and 2 also if it has a page on a printed form.");
        // The story has its first or its last page on printed form 0; 6 and 7 are free.
        for (int first : new int[] {1, 3, 4}) {
            Supplier<FlatPlan> made = printed("story 2 0 0 0;" + AD + "lay 0 " + first + ";put 0 7;");
            refused(made, "lay(0, 2) from printed " + first, 2, p -> p.lay(0, 2));
            refused(made, "lay(0, 6) from printed " + first, 2, p -> p.lay(0, 6));
            refused(made, "lay(0, 8) from printed " + first, 1, p -> p.lay(0, 8));
            refused(made, "lay(0, 0) from printed " + first, 1, p -> p.lay(0, 0));
            refused(made, "lay(0, " + first + ") where it is", 2, p -> p.lay(0, first));
        }
        changed(printed("story 2 0 0 0;lay 0 2;"), "lay(0, 6) from an open form", 0, p -> p.lay(0, 6));
        refused(printed("story 1 0 1 0;lay 0 4;"), "lay(0, 3) to the wrong side", 2, p -> p.lay(0, 3));
        refused(printed("color 0;story 1 1 0 0;lay 0 4;"), "lay(0, 3) without color", 2, p -> p.lay(0, 3));
    }

    private void take() {
        String text = AD + AD + AD + "put 0 1;put 1 2;";
        told("Promise 22", "Removes an ad from its page, a change.");
        changed(() -> loaded("plan 1 8;" + text), "take(0)", true, p -> p.take(0));
        changed(printed(text), "take(1) from the other form", true, p -> p.take(1));
        told("Promise 22", "Returns true; false if it is not placed, or if its form is printed.");
        refused(() -> loaded("plan 1 8;" + text), "take(2), not placed", false, p -> p.take(2));
        refused(printed(text), "take(2), not placed", false, p -> p.take(2));
        refused(printed(text), "take(0) from a printed form", false, p -> p.take(0));
        FlatPlan plan = loaded(text);
        due("take(0)", true, () -> plan.take(0));
        due("take(0) again", false, () -> plan.take(0));
        told("Promise 22", "Throws `IndexOutOfBoundsException` if there is no such ad");
        for (int ad : new int[] {LEAST, -1, 3, 40, GREATEST}) {
            refused(() -> loaded("plan 1 8;" + text), "take(" + ad + ")", NO_INDEX, p -> p.take(ad));
        }
    }

    private void takeStory() {
        String text = "story 1 0 0 0;story 2 0 0 0;story 2 0 0 0;story 1 0 0 0;lay 0 1;lay 1 2;lay 2 7;";
        told("Promise 23", "Removes a story from its pages, a change.");
        changed(() -> loaded("plan 1 8;" + text), "takeStory(2)", true, p -> p.takeStory(2));
        changed(printed(text), "takeStory(1) from the other form", true, p -> p.takeStory(1));
        told("Promise 23", "Returns true; false if it is not placed, or if one of its forms is printed.");
        refused(() -> loaded("plan 1 8;" + text), "takeStory(3), not placed", false, p -> p.takeStory(3));
        refused(printed(text), "takeStory(3), not placed", false, p -> p.takeStory(3));
        refused(printed(text), "takeStory(0) from a printed form", false, p -> p.takeStory(0));
        refused(printed(text), "takeStory(2), its last page on a printed form", false, p -> p.takeStory(2));
        FlatPlan plan = loaded(text);
        due("takeStory(2)", true, () -> plan.takeStory(2));
        inOrder("page(6 +, 3)", new int[] {4, 4, 4}, k -> plan.page(k + 6, 3));
        due("takeStory(2) again", false, () -> plan.takeStory(2));
        told("Promise 23", "Throws `IndexOutOfBoundsException` if there is no such story");
        for (int story : new int[] {LEAST, -1, 4, 10, GREATEST}) {
            refused(() -> loaded("plan 1 8;" + text), "takeStory(" + story + ")", NO_INDEX, p -> p.takeStory(story));
        }
    }

    // ---- promises 24 and 25

    private void use() {
        Supplier<FlatPlan> made = () -> {
            FlatPlan plan = loaded("plan 1 8;standby 2;standby 4;standby 1;ad 2 0 0 0 1 0;story 1 0 0 0;put 0 2;lay 0 3;");
            plan.use(0, 1);
            return plan;
        };
        told("Promise 24", "Puts a standby on a page, a change. It may have stood on another page; then it leaves that one.");
        changed(made, "use(1, 8)", 0, p -> p.use(1, 8));
        changed(made, "use(0, 2) from page 1", 0, p -> p.use(0, 2));
        changed(made, "use(0, 1) where it stands", 0, p -> p.use(0, 1));
        FlatPlan plan = made.get();
        plan.use(0, 2);
        due("page(1, 3)", 4, () -> plan.page(1, 3));
        due("page(2, 3)", 0, () -> plan.page(2, 3));
        due("page(1, 6)", 0, () -> plan.page(1, 6));
        due("page(2, 6)", 1, () -> plan.page(2, 6));
        told("Promise 24", "`page`: any number");
        for (int page : new int[] {LEAST, -1, 0, 9, 65, GREATEST}) {
            refused(made, "use(0, " + page + ")", 1, p -> p.use(0, page));
            refused(made, "use(1, " + page + ")", 1, p -> p.use(1, page));
        }
        told("Promise 24", "Throws `IndexOutOfBoundsException` if there is no such standby");
        for (int standby : new int[] {LEAST, -1, 3, 8, GREATEST}) {
            refused(made, "use(" + standby + ", 5)", NO_INDEX, p -> p.use(standby, 5));
            refused(made, "use(" + standby + ", 0)", NO_INDEX, p -> p.use(standby, 0));
        }
    }

    private void useReasons() {
        String standbys = "standby 1;standby 2;standby 4;";
        told("Promise 24", "Returns 0; otherwise the lowest number that applies: 1 there is no such page");
        for (int g = 1; g <= 4; g++) {
            int last = 4 * g;
            FlatPlan plan = loaded("plan " + g + " 4;" + standbys);
            due("use(0, 0)", 1, () -> plan.use(0, 0));
            due("use(0, 1)", 0, () -> plan.use(0, 1));
            due("use(0, N)", 0, () -> plan.use(0, last));
            due("use(0, N + 1)", 1, () -> plan.use(0, last + 1));
        }
        told("Promise 24", "2 its form is printed, or the standby stands on a page of a printed form");
        Supplier<FlatPlan> stands = () -> {
            FlatPlan plan = loaded("plan 1 8;" + standbys + "ad 4 0 0 0 1 0;put 0 3;");
            plan.use(0, 1);
            plan.use(1, 2);
            plan.print(0);
            return plan;
        };
        int[] due = {1, 2, 2, 2, 2, 2, 2, 2, 2, 1};
        for (int page = 0; page < due.length; page++) {
            int one = page;
            refused(stands, "use(0, " + page + ") from a printed form", due[page], p -> p.use(0, one));
        }
        refused(stands, "use(1, 4) to a printed form", 2, p -> p.use(1, 4));
        refused(stands, "use(2, 1) to a printed form without room", 2, p -> p.use(2, 1));
        changed(stands, "use(1, 6) on the other form", 0, p -> p.use(1, 6));
        changed(stands, "use(2, 7) on the other form", 0, p -> p.use(2, 7));
        told("Promise 24", "3 there are not as many quarters left on it as its size (without itself).");
        // 0 to 4 quarters are left on pages 1 to 5, a story is on 6.
        String filled = "plan 1 8;" + standbys + "ad 4 0 0 0 1 0;ad 2 0 0 0 1 0;ad 1 0 0 0 1 0;ad 2 0 0 0 1 0;ad 1 0 0 0 1 0;"
                + STORY + "put 0 1;put 1 2;put 2 2;put 3 3;put 4 4;lay 0 6;";
        int[][] uses = {{3, 0, 0, 0, 0, 3}, {3, 3, 0, 0, 0, 3}, {3, 3, 3, 3, 0, 3}};
        for (int standby = 0; standby < 3; standby++) {
            int one = standby;
            inOrder("use(" + standby + ", 1 +)", uses[standby], k -> loaded(filled).use(one, k + 1));
        }
        refused(() -> loaded(filled), "use(1, 2)", 3, p -> p.use(1, 2));
        Supplier<FlatPlan> itself = () -> {
            FlatPlan plan = loaded(filled);
            plan.use(1, 3);
            plan.use(2, 5);
            return plan;
        };
        due("page(3, 3)", 0, () -> itself.get().page(3, 3));
        changed(itself, "use(1, 3) without itself", 0, p -> p.use(1, 3));
        changed(itself, "use(2, 5) without itself", 0, p -> p.use(2, 5));
        refused(itself, "use(0, 3)", 3, p -> p.use(0, 3));
    }

    private void clear() {
        Supplier<FlatPlan> made = () -> {
            FlatPlan plan = loaded("plan 1 4;" + AD.repeat(5) + "standby 1;standby 1;standby 2;" + STORY
                    + "put 0 1;put 1 1;put 2 1;put 3 1;put 4 2;lay 0 3;");
            plan.use(0, 2);
            plan.use(2, 2);
            return plan;
        };
        told("Promise 25", "Removes all ads and standbys from a page, a change.");
        changed(made, "clear(1) of ads", 4, p -> p.clear(1));
        changed(made, "clear(2) of both", 3, p -> p.clear(2));
        FlatPlan others = made.get();
        others.clear(1);
        inOrder("ad(k, 6) after clear(1)", new int[] {-1, -1, -1, -1, 2}, k -> others.ad(k, 6));
        inOrder("standby(k, 1) after clear(1)", new int[] {2, -1, 2}, k -> others.standby(k, 1));
        others.undo();
        others.clear(2);
        inOrder("ad(k, 6) after clear(2)", new int[] {1, 1, 1, 1, -1}, k -> others.ad(k, 6));
        inOrder("standby(k, 1) after clear(2)", new int[] {-1, -1, -1}, k -> others.standby(k, 1));
        others.use(1, 4);
        others.put(4, 2);
        others.clear(2);
        due("standby(1, 1) of another page", 4, () -> others.standby(1, 1));
        told("Promise 25", "Returns how many were removed; REFUSED if its form is printed, or if there are none.");
        FlatPlan plan = made.get();
        due("clear(2)", 3, () -> plan.clear(2));
        due("clear(2) again", -4, () -> plan.clear(2));
        due("page(2, 3)", 4, () -> plan.page(2, 3));
        due("page(1, 3)", 0, () -> plan.page(1, 3));
        plan.use(1, 4);
        due("clear(4) of one standby", 1, () -> plan.clear(4));
        plan.put(4, 4);
        due("clear(4) of one ad", 1, () -> plan.clear(4));
        refused(made, "clear(3) of a story", -4, p -> p.clear(3));
        refused(made, "clear(4) of an empty page", -4, p -> p.clear(4));
        Supplier<FlatPlan> printed = () -> {
            FlatPlan p = made.get();
            p.print(0);
            return p;
        };
        refused(printed, "clear(1) printed", -4, p -> p.clear(1));
        refused(printed, "clear(4), printed and empty", -4, p -> p.clear(4));
        changed(printed, "clear(2) of the other form", 3, p -> p.clear(2));
        told("Promise 25", "Throws `IndexOutOfBoundsException` if there is no such page");
        for (int page : new int[] {LEAST, -1, 0, 5, 64, 65, GREATEST}) {
            refused(made, "clear(" + page + ")", NO_INDEX, p -> p.clear(page));
        }
        told("Promise 25", "`page`: 1 to N");
        FlatPlan ends = loaded("plan 4 16;" + AD + AD + "put 0 1;put 1 64;");
        due("clear(64)", 1, () -> ends.clear(64));
        due("clear(1)", 1, () -> ends.clear(1));
    }

    // ---- promise 26

    private void exchange() {
        Supplier<FlatPlan> made = () -> {
            FlatPlan plan = loaded("plan 4 16;ad 1 0 0 0 1 0;ad 2 1 0 0 1 0;ad 4 0 0 0 1 0;standby 1;standby 2;"
                    + "put 0 1;put 1 1;put 2 64;");
            plan.use(0, 1);
            plan.use(1, 2);
            return plan;
        };
        told("Promise 26", "Exchanges all ads and standbys of two pages, a change.");
        changed(made, "exchange(1, 64)", 0, p -> p.exchange(1, 64));
        changed(made, "exchange(64, 1)", 0, p -> p.exchange(64, 1));
        changed(made, "exchange(1, 3) with an empty page", 0, p -> p.exchange(1, 3));
        changed(made, "exchange(3, 1) with an empty page", 0, p -> p.exchange(3, 1));
        changed(made, "exchange(3, 4) of empty pages", 0, p -> p.exchange(3, 4));
        changed(made, "exchange(2, 3) of a standby", 0, p -> p.exchange(2, 3));
        FlatPlan plan = made.get();
        plan.exchange(64, 1);
        inOrder("ad(k, 6)", new int[] {64, 64, 1}, k -> plan.ad(k, 6));
        inOrder("standby(k, 1)", new int[] {64, 2}, k -> plan.standby(k, 1));
        due("page(1, 3)", 0, () -> plan.page(1, 3));
        due("page(64, 3)", 0, () -> plan.page(64, 3));
        due("groupOn(1, 32)", 1, () -> plan.groupOn(1, 32));
        due("groupOn(1, 0)", 0, () -> plan.groupOn(1, 0));
        plan.exchange(64, 5);
        due("page(64, 3)", 4, () -> plan.page(64, 3));
        due("page(5, 3)", 0, () -> plan.page(5, 3));
    }

    private void exchangeOfOnePage() {
        told("Promise 26", "Both may be one page; then nothing moves, and it is a change all the same if neither 2 nor 3 applies.");
        String text = "color 0;ad 1 1 1 2 1 0;ad 1 2 0 0 1 0;" + STORY + "put 0 1;put 1 2;lay 0 3;";
        for (int page : new int[] {1, 2, 4, 8}) {
            changed(() -> loaded("plan 1 8;" + text), "exchange(" + page + ", " + page + ")", 0, p -> p.exchange(page, page));
            FlatPlan plan = loaded("plan 1 8;" + text);
            int digest = plan.digest();
            plan.exchange(page, page);
            due("digest() after exchange(" + page + ", " + page + ")", digest, () -> plan.digest());
        }
        refused(() -> loaded("plan 1 8;" + text), "exchange(3, 3) of a story", 3, p -> p.exchange(3, 3));
        refused(printed(text), "exchange(1, 1) printed", 2, p -> p.exchange(1, 1));
        refused(printed(text), "exchange(4, 4), printed and empty", 2, p -> p.exchange(4, 4));
        refused(() -> {
            FlatPlan plan = loaded("plan 1 8;" + text);
            plan.print(1);
            return plan;
        }, "exchange(3, 3) of a story on a printed form", 2, p -> p.exchange(3, 3));
    }

    private void exchangeReasons() {
        told("Promise 26", "Returns 0; otherwise the lowest reason that applies: 2 one of both forms is printed,"
                + " 3 there is a story on one of both pages");
        // Page 1: color and right; page 2: left; page 7: a story.
        String text = "color 0;ad 1 0 1 2 1 0;ad 1 0 0 1 1 0;" + STORY + "put 0 1;put 1 2;lay 0 7;";
        refused(printed(text), "exchange(1, 2) printed", 2, p -> p.exchange(1, 2));
        refused(printed(text), "exchange(2, 1) printed", 2, p -> p.exchange(2, 1));
        refused(printed(text), "exchange(4, 5) printed", 2, p -> p.exchange(4, 5));
        refused(printed(text), "exchange(7, 8) printed", 2, p -> p.exchange(7, 8));
        refused(printed(text), "exchange(8, 7) printed", 2, p -> p.exchange(8, 7));
        changed(printed(text), "exchange(2, 6) on the open form", 0, p -> p.exchange(2, 6));
        refused(() -> loaded("plan 1 8;" + text), "exchange(1, 7)", 3, p -> p.exchange(1, 7));
        refused(() -> loaded("plan 1 8;" + text), "exchange(7, 1)", 3, p -> p.exchange(7, 1));
        refused(() -> loaded("plan 1 8;" + text), "exchange(7, 8)", 3, p -> p.exchange(7, 8));
        told("Promise 26", "4, 5, 6 an ad of one of both pages would have no color, be on the wrong side,");
        refused(() -> loaded("plan 1 8;" + text), "exchange(1, 2)", 4, p -> p.exchange(1, 2));
        refused(() -> loaded("plan 1 8;" + text), "exchange(2, 1)", 4, p -> p.exchange(2, 1));
        refused(() -> loaded("plan 1 8;" + text), "exchange(3, 1)", 4, p -> p.exchange(3, 1));
        refused(() -> loaded("plan 1 8;" + text), "exchange(1, 6)", 4, p -> p.exchange(1, 6));
        refused(() -> loaded("plan 1 8;" + text), "exchange(1, 4)", 5, p -> p.exchange(1, 4));
        refused(() -> loaded("plan 1 8;" + text), "exchange(8, 1)", 5, p -> p.exchange(8, 1));
        refused(() -> loaded("plan 1 8;" + text), "exchange(2, 3)", 5, p -> p.exchange(2, 3));
        refused(() -> loaded("plan 1 8;" + text), "exchange(5, 2)", 5, p -> p.exchange(5, 2));
        changed(() -> loaded("plan 1 8;" + text), "exchange(1, 5)", 0, p -> p.exchange(1, 5));
        changed(() -> loaded("plan 1 8;" + text), "exchange(2, 8)", 0, p -> p.exchange(2, 8));
        // The wrong side for the one page's ad, no color for the other one's: the lower reason counts.
        refused(() -> loaded("plan 1 8;color 1;ad 1 0 0 2 1 0;ad 1 0 1 0 1 0;put 0 1;put 1 2;"), "exchange(1, 2)", 4,
                p -> p.exchange(1, 2));
        refused(() -> loaded("plan 1 8;color 1;ad 1 0 0 2 1 0;ad 1 0 1 0 1 0;put 0 1;put 1 2;"), "exchange(2, 1)", 4,
                p -> p.exchange(2, 1));
    }

    private void exchangeAndRivals() {
        told("Promise 26", "or stand on a spread with a rival then.");
        // Group 5 on 1 and 4, group 6 on 2 and 8.
        String text = "plan 1 8;ad 1 5 0 0 1 0;ad 1 5 0 0 1 0;ad 1 6 0 0 1 0;ad 1 6 0 0 1 0;ad 1 0 0 0 1 0;ad 1 0 0 0 1 0;"
                + "put 0 1;put 1 4;put 2 2;put 3 8;put 4 1;put 5 2;";
        refused(() -> loaded(text), "exchange(1, 5)", 6, p -> p.exchange(1, 5));
        refused(() -> loaded(text), "exchange(5, 1)", 6, p -> p.exchange(5, 1));
        refused(() -> loaded(text), "exchange(8, 3)", 6, p -> p.exchange(8, 3));
        refused(() -> loaded(text), "exchange(3, 8)", 6, p -> p.exchange(3, 8));
        refused(() -> loaded("plan 1 8;ad 1 5 0 0 1 0;ad 1 5 0 0 1 0;put 0 2;put 1 5;"), "exchange(5, 3)", 6, p -> p.exchange(5, 3));
        refused(() -> loaded("plan 1 8;ad 1 5 0 0 1 0;ad 1 5 0 0 1 0;put 1 2;put 0 5;"), "exchange(5, 3)", 6, p -> p.exchange(5, 3));
        changed(() -> loaded(text), "exchange(1, 4) of two rivals", 0, p -> p.exchange(1, 4));
        changed(() -> loaded(text), "exchange(8, 2) of two rivals", 0, p -> p.exchange(8, 2));
        changed(() -> loaded(text), "exchange(1, 2) of neighboring spreads", 0, p -> p.exchange(1, 2));
        changed(() -> loaded(text), "exchange(2, 3) within a spread", 0, p -> p.exchange(2, 3));
        changed(() -> loaded(text), "exchange(4, 5) within a spread", 0, p -> p.exchange(4, 5));
        changed(() -> loaded(text), "exchange(1, 8) of the ends", 0, p -> p.exchange(1, 8));
        changed(() -> loaded(text), "exchange(4, 2) beside no rival", 0, p -> p.exchange(4, 2));
        // An ad that is not placed is no rival, and group 0 has none.
        changed(() -> loaded("plan 1 8;ad 1 5 0 0 1 0;ad 1 5 0 0 1 0;put 0 4;"), "exchange(4, 1)", 0, p -> p.exchange(4, 1));
        changed(() -> loaded("plan 1 8;" + AD + AD + "put 0 4;put 1 2;"), "exchange(4, 3)", 0, p -> p.exchange(4, 3));
        // 5 comes before 6, 4 before 6
        refused(() -> loaded("plan 1 8;ad 1 5 0 1 1 0;ad 1 5 0 0 1 0;put 0 2;put 1 4;"), "exchange(2, 5)", 5, p -> p.exchange(2, 5));
        refused(() -> loaded("plan 1 8;color 1;ad 1 5 1 0 1 0;ad 1 5 0 0 1 0;put 0 2;put 1 4;"), "exchange(2, 5)", 4,
                p -> p.exchange(2, 5));
        refused(() -> loaded("plan 1 8;color 1;ad 1 5 0 0 1 0;ad 1 0 1 0 1 0;ad 1 5 0 0 1 0;put 0 1;put 1 2;put 2 3;"),
                "exchange(1, 2)", 4, p -> p.exchange(1, 2));
    }

    private void exchangeThrows() {
        String text = "plan 1 8;" + AD + "put 0 1;";
        told("Promise 26", "`one`: 1 to N");
        oneToEight(text, "one", true);
        told("Promise 26", "`other`: 1 to N");
        oneToEight(text, "other", false);
        told("Promise 26", "Throws `IndexOutOfBoundsException` if there is no such page");
        for (int page : new int[] {LEAST, -1, 0, 9, 64, 65, GREATEST}) {
            refused(() -> loaded(text), "exchange(" + page + ", 2)", NO_INDEX, p -> p.exchange(page, 2));
            refused(() -> loaded(text), "exchange(2, " + page + ")", NO_INDEX, p -> p.exchange(2, page));
            refused(() -> loaded(text), "exchange(" + page + ", " + page + ")", NO_INDEX, p -> p.exchange(page, page));
            refused(printed(AD), "exchange(1, " + page + ") printed", NO_INDEX, p -> p.exchange(1, page));
        }
    }

    /** The first and the last page that are taken, and those beside them that are not. */
    private void oneToEight(String text, String name, boolean first) {
        int[] pages = {0, 1, 8, 9};
        Object[] due = {NO_INDEX, 0, 0, NO_INDEX};
        for (int i = 0; i < pages.length; i++) {
            int page = pages[i];
            FlatPlan plan = loaded(text);
            due("exchange with " + name + " = " + page, due[i], () -> first ? plan.exchange(page, 2) : plan.exchange(2, page));
        }
    }
}
