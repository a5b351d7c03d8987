import java.util.Random;

/** Long runs of calls, the same on every machine, whose answers Model tells. */
public final class ModelTest {
    private static final int[] EXTREMES = {Integer.MIN_VALUE, Integer.MIN_VALUE + 1, -1000, -2, -1, 0, 1, 2,
        41, 65, 101, 512, 1000, 10000, Integer.MAX_VALUE - 1, Integer.MAX_VALUE};
    private static final int[] SIZES = {1, 2, 4};

    private final Check check;
    private final Random random;
    private final int run;
    private FlatPlan plan = new FlatPlan();
    private Model model = new Model();
    private int calls = 0;

    private ModelTest(Check check, int run) {
        this.check = check;
        this.run = run;
        this.random = new Random(run);
    }

    public static void main(String[] args) {
        int runs = args.length > 0 ? Integer.parseInt(args[0]) : 600;
        Check check = new Check("ModelTest");
        for (int run = 0; run < runs; run++) {
            new ModelTest(check, run).play();
        }
        check.end();
    }

    private void play() {
        int style = run % 4;
        if (style != 3) {
            loadText(text(style));
        }
        while (calls < 512) {
            if (roll(150)) {
                loadText(roll(2) ? spoiled(text(random.nextInt(4))) : text(random.nextInt(4)));
            } else if (roll(3)) {
                change();
            } else {
                query();
            }
            if (!model.w.tidy()) {
                check.same("run " + run + ": the model is untidy", true, false);
            }
        }
    }

    private boolean roll(int sides) {
        return random.nextInt(sides) == 0;
    }

    private int from(int least, int most) {
        return least > most ? least : least + random.nextInt(most - least + 1);
    }

    /** A number of a range as a rule, sometimes one just outside or anything. */
    private int about(int least, int most) {
        if (roll(25)) {
            return EXTREMES[random.nextInt(EXTREMES.length)];
        }
        return roll(12) ? (roll(2) ? least - 1 : most + 1) : from(least, most);
    }

    private void same(String call, Check.Call one, Check.Call other) {
        if (calls >= 512) {
            return;
        }
        calls++;
        check.same("run " + run + ", call " + calls + ": " + call, Check.answerOf(one), Check.answerOf(other));
    }

    // ---- texts

    private static int[] words(String text, int at) {
        int[] words = new int[5];
        for (int i = 0; i < 20; i++) {
            int one = at + i < text.length() ? text.charAt(at + i) : 0;
            words[i / 4] |= (one & 255) << (24 - 8 * (i % 4));
        }
        return words;
    }

    private void loadText(String text) {
        truncate(0);
        for (int at = 0; at < text.length() && at < 1600; at += 20) {
            append(words(text, at));
        }
        truncate(text.length());
        load();
    }

    private void append(int[] w) {
        same("appendInput", () -> plan.appendInput(w[0], w[1], w[2], w[3], w[4]), () -> model.appendInput(w));
    }

    private void truncate(int length) {
        same("truncateInput(" + length + ")", () -> plan.truncateInput(length), () -> model.truncateInput(length));
    }

    private void load() {
        same("load()", () -> plan.load(), () -> model.load());
        same("errorCode()", () -> plan.errorCode(), () -> model.errorCode);
        same("errorPosition()", () -> plan.errorPosition(), () -> model.errorPosition);
        same("undoCount()", () -> plan.undoCount(), () -> model.undoCount());
        same("digest()", () -> plan.digest(), () -> model.digest());
    }

    /** A text that as a rule has no error but in its places. */
    private String text(int style) {
        StringBuilder text = new StringBuilder();
        int g = style == 1 ? 1 : from(1, 4);
        int s = style == 1 ? 4 : new int[] {4, 8, 16}[random.nextInt(3)];
        if (roll(8)) {
            g = 1;
            s = 16;
        } else {
            text.append("plan ").append(g).append(' ').append(s).append(roll(2) ? ";" : " ;\n");
        }
        int forms = 2 * g;
        int pages = g * s;
        for (int f = 0; f < forms; f++) {
            if (roll(2)) text.append("color ").append(f).append(';');
            if (roll(3)) text.append("close ").append(f).append(' ').append(from(1, roll(3) ? 9999 : 40)).append(';');
        }
        int ads = style == 1 ? from(0, 12) : style == 2 ? 40 : from(0, 41);
        int stories = roll(20) ? 11 : from(0, style == 2 ? 3 : 8);
        int standbys = roll(20) ? 9 : from(0, 8);
        for (int i = 0; i < ads && text.length() < 1250; i++) {
            text.append("ad ").append(SIZES[random.nextInt(roll(2) ? 3 : 2)]).append(' ').append(from(0, roll(2) ? 9 : 2));
            text.append(' ').append(from(0, 1)).append(' ').append(from(0, 2)).append(' ').append(from(1, roll(4) ? 999 : 9));
            text.append(' ').append(roll(2) ? 0 : from(0, 60)).append(';');
        }
        for (int i = 0; i < stories && text.length() < 1400; i++) {
            text.append("story ").append(from(1, roll(3) ? 8 : 3)).append(' ').append(from(0, 1)).append(' ');
            text.append(from(0, 2)).append(' ').append(roll(2) ? 0 : from(0, 60)).append(';');
        }
        for (int i = 0; i < standbys && text.length() < 1500; i++) {
            text.append("standby ").append(SIZES[random.nextInt(3)]).append(";\n");
        }
        if (roll(3)) {
            text.append(roll(2) ? "put " : "lay ").append(from(0, 3)).append(' ').append(from(1, pages)).append(';');
        }
        return text.length() > 1600 ? text.substring(0, 1600) : text.toString();
    }

    /** The text with a sign or a token put in, left out or changed. */
    private String spoiled(String text) {
        if (text.isEmpty()) {
            return "; ";
        }
        StringBuilder other = new StringBuilder(text);
        int times = from(1, 2);
        for (int i = 0; i < times; i++) {
            int at = from(0, other.length() - 1);
            String[] bits = {";", " ", "\n", "a", "9", "0", "00000", "plan", "close 0 0;", "ad 3", "put 0 1;", "put 0 1;put 0 2;",
                "lay 0 1;", "\t", "A", "\u00e9", "abcdefghi", "color 9;", "standby 3;", "story 9", "-"};
            String bit = bits[random.nextInt(bits.length)];
            if (roll(3)) {
                other.deleteCharAt(at);
            } else if (roll(2)) {
                other.setCharAt(at, bit.charAt(0));
            } else if (roll(3)) {
                other.setLength(at);
            } else {
                other.insert(at, bit);
            }
            if (other.length() == 0) {
                return "";
            }
        }
        return other.length() > 1600 ? other.substring(0, 1600) : other.toString();
    }

    // ---- calls

    private int anAd() {
        return about(0, model.w.ads.size() - 1);
    }

    private int aStory() {
        return about(0, model.w.stories.size() - 1);
    }

    private int aStandby() {
        return about(0, model.w.standbys.size() - 1);
    }

    private int aPage() {
        return about(1, model.w.n());
    }

    private int aForm() {
        return about(0, 2 * model.w.g - 1);
    }

    private void change() {
        int kind = random.nextInt(22);
        int ad = anAd();
        int page = aPage();
        switch (kind) {
            case 0: {
                int size = roll(15) ? about(0, 5) : SIZES[random.nextInt(3)];
                int group = about(0, 9);
                int price = about(1, 999);
                int ready = roll(3) ? about(0, 9999) : from(0, 50);
                same("addAd(" + size + ", " + group + ", " + price + ", " + ready + ")",
                        () -> plan.addAd(size, group, price, ready), () -> model.addAd(size, group, price, ready));
                break;
            }
            case 1: {
                boolean color = roll(2);
                int side = about(0, 2);
                same("setAd(" + ad + ", " + color + ", " + side + ")", () -> plan.setAd(ad, color, side),
                        () -> model.setAd(ad, color, side));
                break;
            }
            case 2: {
                int price = about(1, 999);
                same("setPrice(" + ad + ", " + price + ")", () -> plan.setPrice(ad, price), () -> model.setPrice(ad, price));
                break;
            }
            case 3: case 4: case 5: case 6:
                same("put(" + ad + ", " + page + ")", () -> plan.put(ad, page), () -> model.put(ad, page));
                break;
            case 7: case 8: {
                int story = aStory();
                same("lay(" + story + ", " + page + ")", () -> plan.lay(story, page), () -> model.lay(story, page));
                break;
            }
            case 9:
                same("take(" + ad + ")", () -> plan.take(ad), () -> model.take(ad));
                break;
            case 10: {
                int story = aStory();
                same("takeStory(" + story + ")", () -> plan.takeStory(story), () -> model.takeStory(story));
                break;
            }
            case 11: case 12: {
                int standby = aStandby();
                same("use(" + standby + ", " + page + ")", () -> plan.use(standby, page), () -> model.use(standby, page));
                break;
            }
            case 13:
                same("clear(" + page + ")", () -> plan.clear(page), () -> model.clear(page));
                break;
            case 14: case 15: {
                int other = roll(6) ? page : aPage();
                same("exchange(" + page + ", " + other + ")", () -> plan.exchange(page, other), () -> model.exchange(page, other));
                break;
            }
            default:
                changeOfForms(kind);
        }
        same("digest()", () -> plan.digest(), () -> model.digest());
    }

    private void changeOfForms(int kind) {
        int form = aForm();
        switch (kind) {
            case 16: {
                boolean color = !roll(3);
                same("setColor(" + form + ", " + color + ")", () -> plan.setColor(form, color), () -> model.setColor(form, color));
                break;
            }
            case 17: {
                int time = roll(3) ? about(1, 9999) : model.w.time + from(-1, 12);
                same("setClosing(" + form + ", " + time + ")", () -> plan.setClosing(form, time), () -> model.setClosing(form, time));
                break;
            }
            case 18: {
                int hours = roll(20) ? about(1, 500) : from(1, 4);
                same("pass(" + hours + ")", () -> plan.pass(hours), () -> model.pass(hours));
                break;
            }
            case 19:
                if (roll(4)) {
                    same("print(" + form + ")", () -> plan.print(form), () -> model.print(form));
                }
                break;
            case 20:
                if (roll(2)) {
                    same("placeAds()", () -> plan.placeAds(), () -> model.placeAds());
                } else {
                    same("layStories()", () -> plan.layStories(), () -> model.layStories());
                }
                break;
            default:
                int times = roll(12) ? 21 : from(1, 3);
                for (int i = 0; i < times; i++) {
                    same("undo()", () -> plan.undo(), () -> model.undo());
                }
        }
        same("undoCount()", () -> plan.undoCount(), () -> model.undoCount());
    }

    private void query() {
        int ad = anAd();
        int page = aPage();
        int form = aForm();
        int story = aStory();
        int standby = aStandby();
        int k = roll(3) ? about(0, 64) : about(0, 5);
        int group = about(0, 9);
        int what = about(0, 12);
        switch (random.nextInt(39)) {
            case 0: same("count(" + what + ")", () -> plan.count(what), () -> model.count(what)); break;
            case 1: same("ad(" + ad + ", " + what + ")", () -> plan.ad(ad, what), () -> model.ad(ad, what)); break;
            case 2: same("story(" + story + ", " + what + ")", () -> plan.story(story, what), () -> model.story(story, what)); break;
            case 3: same("standby(" + standby + ", " + what / 3 + ")", () -> plan.standby(standby, what / 3), () -> model.standby(standby, what / 3)); break;
            case 4: same("page(" + page + ", " + what + ")", () -> plan.page(page, what), () -> model.page(page, what)); break;
            case 5: same("adOn(" + page + ", " + k + ")", () -> plan.adOn(page, k), () -> model.adOn(page, k)); break;
            case 6: same("form(" + form + ", " + what + ")", () -> plan.form(form, what), () -> model.form(form, what)); break;
            case 7: same("pageOf(" + form + ", " + k + ")", () -> plan.pageOf(form, k), () -> model.pageOf(form, k)); break;
            case 8: same("reason(" + ad + ", " + page + ")", () -> plan.reason(ad, page), () -> model.reason(ad, page)); break;
            case 9: same("storyReason(" + story + ", " + page + ")", () -> plan.storyReason(story, page), () -> model.storyReason(story, page)); break;
            case 10: same("nextClosing()", () -> plan.nextClosing(), () -> model.nextClosing()); break;
            case 11: same("choices(" + ad + ")", () -> plan.choices(ad), () -> model.choices(ad)); break;
            case 12: same("firstPage(" + ad + ", " + page + ")", () -> plan.firstPage(ad, page), () -> model.firstPage(ad, page)); break;
            case 13: same("tightest()", () -> plan.tightest(), () -> model.tightest()); break;
            case 14: case 15: case 16:
                same("eviction(" + ad + ", " + page + ")", () -> plan.eviction(ad, page), () -> model.eviction(ad, page)); break;
            case 17: same("cheapestPage(" + ad + ")", () -> plan.cheapestPage(ad), () -> model.cheapestPage(ad)); break;
            case 18: same("matching()", () -> plan.matching(), () -> model.matching()); break;
            case 19: same("bestColor(" + k + ")", () -> plan.bestColor(k), () -> model.bestColor(k)); break;
            case 20: same("nearRivals()", () -> plan.nearRivals(), () -> model.nearRivals()); break;
            case 21: {
                int spread = about(0, model.w.n() / 2);
                same("groupOn(" + group + ", " + spread + ")", () -> plan.groupOn(group, spread), () -> model.groupOn(group, spread));
                break;
            }
            case 22: same("spreadsOf(" + group + ")", () -> plan.spreadsOf(group), () -> model.spreadsOf(group)); break;
            case 23: same("revenue()", () -> plan.revenue(), () -> model.revenue()); break;
            case 24: same("revenueOf(" + form + ")", () -> plan.revenueOf(form), () -> model.revenueOf(form)); break;
            case 25: same("revenueOfGroup(" + group + ")", () -> plan.revenueOfGroup(group), () -> model.revenueOfGroup(group)); break;
            case 26: same("lost()", () -> plan.lost(), () -> model.lost()); break;
            case 27: same("endangered()", () -> plan.endangered(), () -> model.endangered()); break;
            case 28: same("lateItem(" + k + ")", () -> plan.lateItem(k), () -> model.lateItem(k)); break;
            case 29: same("lastReady()", () -> plan.lastReady(), () -> model.lastReady()); break;
            case 30: if (roll(3)) same("betterExchange()", () -> plan.betterExchange(), () -> model.betterExchange()); break;
            case 31: same("emptyRun(" + k + ")", () -> plan.emptyRun(k), () -> model.emptyRun(k)); break;
            case 32: same("emptiest(" + k + ")", () -> plan.emptiest(k), () -> model.emptiest(k)); break;
            case 33: same("fill()", () -> plan.fill(), () -> model.fill()); break;
            case 34: same("quarterPrice()", () -> plan.quarterPrice(), () -> model.quarterPrice()); break;
            case 35: same("describe(" + page + ")", () -> plan.describe(page), () -> model.describe(page)); break;
            case 36: same("describedByte(" + k + ")", () -> plan.describedByte(k), () -> model.describedByte(k)); break;
            case 37: if (roll(4)) truncate(about(0, model.buffer.size())); break;
            default:
                if (roll(4)) append(words(text(random.nextInt(4)), 0));
                else if (roll(12)) load();
        }
    }
}
