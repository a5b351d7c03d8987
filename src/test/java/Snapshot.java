import java.util.ArrayList;
import java.util.List;

/** All that the class tells of a plan, to see whether a call has changed something. */
final class Snapshot {
    private Snapshot() {
    }

    /** What undo() brings back. */
    static List<Object> ofPlan(FlatPlan plan) {
        List<Object> all = new ArrayList<>();
        for (int what = 0; what <= 11; what++) {
            all.add(plan.count(what));
        }
        for (int i = 0; i < plan.count(3); i++) {
            for (int what = 0; what <= 7; what++) {
                all.add(plan.ad(i, what));
            }
        }
        for (int i = 0; i < plan.count(4); i++) {
            for (int what = 0; what <= 5; what++) {
                all.add(plan.story(i, what));
            }
        }
        for (int i = 0; i < plan.count(5); i++) {
            all.add(plan.standby(i, 0));
            all.add(plan.standby(i, 1));
        }
        for (int i = 0; i < plan.count(2); i++) {
            for (int what = 0; what <= 7; what++) {
                all.add(plan.form(i, what));
            }
        }
        for (int page = 1; page <= plan.count(0); page++) {
            for (int what = 3; what <= 6; what++) {
                all.add(plan.page(page, what));
            }
        }
        for (int group = 0; group <= 9; group++) {
            all.add(plan.spreadsOf(group));
        }
        all.add(plan.lost());
        return all;
    }

    /** The plan, the changes that can be undone, the latest error and the latest description. */
    static List<Object> of(FlatPlan plan) {
        List<Object> all = ofPlan(plan);
        all.add(plan.undoCount());
        all.add(plan.errorCode());
        all.add(plan.errorPosition());
        for (int i = 0; i < 15; i++) {
            all.add(plan.describedByte(i));
        }
        return all;
    }
}
