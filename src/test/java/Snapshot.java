import java.util.ArrayList;
import java.util.List;

/**
 * What the class tells of a plan, to see whether a call has changed something: of a small plan all, of a
 * large one less, as two of these and the calls between them should be no more than an object's 512 calls.
 */
final class Snapshot {
    private Snapshot() {
    }

    /** The pages, signatures, forms, ads, stories and standbys. */
    private static int[] counts(FlatPlan plan) {
        int[] counts = new int[6];
        for (int what = 0; what < counts.length; what++) {
            counts[what] = plan.count(what);
        }
        return counts;
    }

    /** What undo() brings back. */
    static List<Object> ofPlan(FlatPlan plan) {
        List<Object> all = new ArrayList<>();
        for (int what = 6; what <= 11; what++) {
            all.add(plan.count(what));
        }
        int[] counts = counts(plan);
        for (int count : counts) {
            all.add(count);
        }
        for (int i = 0; i < counts[3]; i++) {
            for (int what = counts[3] <= 8 ? 0 : 4; what <= 7; what += counts[3] <= 8 ? 1 : 2) {
                all.add(plan.ad(i, what));
            }
        }
        for (int i = 0; i < counts[4]; i++) {
            for (int what = 0; what <= 5; what++) {
                all.add(plan.story(i, what));
            }
        }
        for (int i = 0; i < counts[5]; i++) {
            all.add(plan.standby(i, 0));
            all.add(plan.standby(i, 1));
        }
        for (int i = 0; i < counts[2]; i++) {
            for (int what = 0; what <= 7; what++) {
                all.add(plan.form(i, what));
            }
        }
        for (int page = 1; page <= counts[0]; page++) {
            for (int what = 3; what <= (counts[0] <= 16 ? 6 : 3); what++) {
                all.add(plan.page(page, what));
            }
        }
        for (int group = 0; group <= 9; group++) {
            all.add(plan.spreadsOf(group));
        }
        all.add(plan.lost());
        return all;
    }

    /** What the searches and sums answer, and what some changes come to; the plan is another one then. */
    static List<Object> answers(FlatPlan plan) {
        List<Object> all = new ArrayList<>();
        int[] counts = counts(plan);
        for (int page = 1; page <= counts[0]; page++) {
            int one = page;
            all.add(plan.describe(page));
            for (int ad = 0; ad < counts[3]; ad++) {
                all.add(plan.reason(ad, page));
                all.add(plan.eviction(ad, page));
            }
            all.add(Check.answerOf(() -> plan.exchange(2, one)));
            all.add(Check.answerOf(() -> plan.exchange(4, one)));
            all.add(plan.digest());
        }
        for (int k = 0; k < 8; k++) {
            all.add(plan.lateItem(k));
            all.add(plan.emptiest(k));
            all.add(plan.revenueOfGroup(k));
        }
        for (int form = 0; form < counts[2]; form++) {
            all.add(plan.revenueOf(form));
            all.add(plan.bestColor(form + 1));
        }
        all.addAll(List.of(plan.revenue(), plan.endangered(), plan.lastReady(), plan.nearRivals(), plan.tightest(), plan.matching(),
                plan.betterExchange(), plan.nextClosing(), plan.emptyRun(2), plan.fill()));
        all.addAll(List.of(plan.placeAds(), plan.layStories(), plan.pass(5), plan.lost(), plan.digest(), plan.revenue()));
        all.addAll(ofPlan(plan));
        return all;
    }

    /** Where the code and the position of the error stand in a list of of(). */
    static int errorIn(List<Object> all) {
        return all.size() - 17;
    }

    /** The plan, the changes that can be undone, the latest error and the latest description. */
    static List<Object> of(FlatPlan plan) {
        List<Object> all = ofPlan(plan);
        all.add(plan.undoCount());
        all.add(plan.errorCode());
        all.add(plan.errorPosition());
        for (int i = 0; i < 15; i++) {
            all.add(plan.describedByte(i));
        }
        return all;
    }
}
