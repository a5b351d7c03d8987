/** The numbers of ads, stories, standbys and forms: the first and the last that there is, and those beside them. */
final class BoundsOfNumbers extends Bounds {
    /** A call of the face with a number of an item or a form. */
    private interface Numbered {
        Object answer(FlatPlan plan, int number);
    }

    private static final String MOST = "plan 4 16;" + "ad 1 0 0 0 1 0;".repeat(40) + "story 1 0 0 0;".repeat(10)
            + "standby 1;".repeat(8);
    private static final String ONE = "plan 1 4;ad 1 0 0 0 1 0;story 1 0 0 0;standby 1;";
    private static final String NO_ITEM = "plan 1 4;";

    BoundsOfNumbers(Check check) {
        super(check);
    }

    @Override
    void run() {
        ads();
        stories();
        standbys();
        forms();
    }

    private void ads() {
        String ad = "`ad`: number of an ad";
        items(9, ad, 40, true, (plan, number) -> plan.setAd(number, true, 1));
        items(10, ad, 40, 1, (plan, number) -> plan.setPrice(number, 2));
        items(11, ad, 40, 1, (plan, number) -> plan.ad(number, 0));
        items(18, ad, 40, 0, (plan, number) -> plan.reason(number, 1));
        items(20, ad, 40, 0, (plan, number) -> plan.put(number, 1));
        items(22, ad, 40, false, (plan, number) -> plan.take(number));
        items(34, ad, 40, "all", (plan, number) -> plan.choices(number) == plan.count(0) ? "all" : "some");
        items(35, ad, 40, 4, (plan, number) -> plan.firstPage(number, 4));
        items(37, ad, 40, 0, (plan, number) -> plan.eviction(number, 1));
        items(38, ad, 40, 1, (plan, number) -> plan.cheapestPage(number));
    }

    private void stories() {
        String story = "`story`: number of a story";
        items(12, story, 10, 1, (plan, number) -> plan.story(number, 0));
        items(19, story, 10, 0, (plan, number) -> plan.storyReason(number, 1));
        items(21, story, 10, 0, (plan, number) -> plan.lay(number, 1));
        items(23, story, 10, false, (plan, number) -> plan.takeStory(number));
    }

    private void standbys() {
        String standby = "`standby`: number of a standby";
        items(13, standby, 8, 1, (plan, number) -> plan.standby(number, 0));
        items(24, standby, 8, 0, (plan, number) -> plan.use(number, 1));
    }

    private void forms() {
        String form = "`form`: number of a form";
        forms(16, form, 2, (plan, number) -> plan.form(number, 3));
        forms(17, form, "a page", (plan, number) -> plan.pageOf(number, 0) > 0 ? "a page" : "none");
        forms(27, form, true, (plan, number) -> plan.setColor(number, true));
        forms(28, form, -1, (plan, number) -> plan.setClosing(number, 9));
        forms(30, form, 8, (plan, number) -> plan.print(number));
        forms(45, form, 0, (plan, number) -> plan.revenueOf(number));
    }

    private void items(int promise, String words, int most, Object due, Numbered call) {
        told("Promise " + promise, words);
        upTo(MOST, most, due, call);
        upTo(ONE, 1, due, call);
        upTo(NO_ITEM, 0, due, call);
    }

    private void forms(int promise, String words, Object due, Numbered call) {
        told("Promise " + promise, words);
        for (int g = 1; g <= 4; g++) {
            upTo("plan " + g + " 4;", 2 * g, due, call);
        }
    }

    /** There are so many; the answer is due for the first and the last one. */
    private void upTo(String text, int number, Object due, Numbered call) {
        if (number > 0) {
            due("the first of " + number, due, () -> call.answer(loaded(text), 0));
            due("the last of " + number, due, () -> call.answer(loaded(text), number - 1));
        }
        due("one more than " + number, NO_INDEX, () -> call.answer(loaded(text), number));
        due("number -1 of " + number, NO_INDEX, () -> call.answer(loaded(text), -1));
        due("the greatest number of " + number, NO_INDEX, () -> call.answer(loaded(text), GREATEST));
        due("the least number of " + number, NO_INDEX, () -> call.answer(loaded(text), LEAST));
    }
}
