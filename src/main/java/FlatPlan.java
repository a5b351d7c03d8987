import java.util.Arrays;

/** A flat plan of a magazine; the promises stand in shared/DOC.md. */
public final class FlatPlan {
    public static final int NONE = -1;
    public static final int FULL = -2;
    public static final int TEXT_ERROR = -3;
    public static final int REFUSED = -4;

    private static final int MOST_ADS = 40;
    private static final int MOST_STORIES = 10;
    private static final int MOST_STANDBYS = 8;
    private static final int MOST_FORMS = 8;
    private static final int MOST_PAGES = 64;
    private static final int MOST_SPREADS = 33;
    private static final int MOST_CHANGES = 20;
    private static final int MOST_INPUT = 1600;
    /** Four ads or standbys of three bytes, a space behind each, and the quarters left. */
    private static final int MOST_DESCRIPTION = 20;
    private static final int GROUPS = 10;
    private static final int QUARTERS = 4;
    private static final int LAST_HOUR = 9999;
    private static final int HIGHEST_PRICE = 999;
    private static final int STORY_BASE = 100;

    private final Reader reader;
    private final Bytes input;
    private final Searches searches;
    private final Plan plan;
    private final History history;
    private final Bytes description;

    public FlatPlan() {
        reader = new Reader();
        input = reader.text;
        searches = new Searches();
        plan = searches.plan;
        history = new History();
        description = new Bytes(MOST_DESCRIPTION);
    }

    // ---- the input

    public int appendInput(int w0, int w1, int w2, int w3, int w4) {
        if (input.length + 20 > MOST_INPUT) {
            return NONE;
        }
        input.addWord(w0);
        input.addWord(w1);
        input.addWord(w2);
        input.addWord(w3);
        input.addWord(w4);
        return input.length;
    }

    public int truncateInput(int length) {
        if (length < 0 || length > input.length) {
            return NONE;
        }
        input.length = length;
        return length;
    }

    public int load() {
        int statements = reader.readText();
        input.length = 0;
        if (statements == NONE) {
            return TEXT_ERROR;
        }
        plan.become(reader.draft.now);
        history.forget();
        return statements;
    }

    public int errorCode() {
        return reader.code;
    }

    public int errorPosition() {
        return reader.position;
    }

    // ---- what there is

    public int count(int what) {
        State now = plan.now;
        switch (what) {
            case 0: return plan.pages;
            case 1: return now.signatures;
            case 2: return plan.forms;
            case 3: return now.ads.number;
            case 4: return now.stories.number;
            case 5: return now.standbys.number;
            case 6: return now.time;
            case 7: return placed(now.ads.page, now.ads.number);
            case 8: return placed(now.stories.page, now.stories.number);
            case 9: return placed(now.standbys.page, now.standbys.number);
            case 10: return placed(now.forms.printed, plan.forms);
            case 11: return placed(now.forms.color, plan.forms);
            default: return NONE;
        }
    }

    /** Counts the first entries that are not 0: pages of placed items, or marks of forms. */
    private static int placed(int[] entries, int number) {
        int found = 0;
        for (int i = 0; i < number && i < entries.length; i++) {
            if (entries[i] != 0) {
                found++;
            }
        }
        return found;
    }

    public int addAd(int size, int group, int price, int ready) throws IllegalArgumentException {
        if (!isSize(size) || group < 0 || group >= GROUPS || !isPrice(price)
                || ready < 0 || ready > LAST_HOUR) {
            throw new IllegalArgumentException("no such ad can be added");
        }
        Ads ads = plan.now.ads;
        if (ads.number >= MOST_ADS) {
            return FULL;
        }
        history.keep(plan.now);
        return ads.add(size, group, price, ready);
    }

    public boolean setAd(int ad, boolean color, int side)
            throws IndexOutOfBoundsException, IllegalArgumentException {
        needAd(ad);
        if (side < 0 || side > 2) {
            throw new IllegalArgumentException("a side is 0 to 2");
        }
        Ads ads = plan.now.ads;
        if (ads.page[ad] != 0) {
            return false;
        }
        history.keep(plan.now);
        ads.color[ad] = color ? 1 : 0;
        ads.side[ad] = side;
        return true;
    }

    public int setPrice(int ad, int price)
            throws IndexOutOfBoundsException, IllegalArgumentException {
        needAd(ad);
        if (!isPrice(price)) {
            throw new IllegalArgumentException("a price is 1 to 999");
        }
        history.keep(plan.now);
        int previous = plan.now.ads.price[ad];
        plan.now.ads.price[ad] = price;
        return previous;
    }

    public int ad(int ad, int what) throws IndexOutOfBoundsException {
        needAd(ad);
        Ads ads = plan.now.ads;
        switch (what) {
            case 0: return ads.size[ad];
            case 1: return ads.group[ad];
            case 2: return ads.color[ad];
            case 3: return ads.side[ad];
            case 4: return ads.price[ad];
            case 5: return ads.ready[ad];
            case 6: return orNone(ads.page[ad]);
            case 7: return plan.isLate(ads.ready[ad]) ? 1 : 0;
            default: return NONE;
        }
    }

    public int story(int story, int what) throws IndexOutOfBoundsException {
        needStory(story);
        Stories stories = plan.now.stories;
        switch (what) {
            case 0: return stories.length[story];
            case 1: return stories.color[story];
            case 2: return stories.side[story];
            case 3: return stories.ready[story];
            case 4: return orNone(stories.page[story]);
            case 5: return plan.isLate(stories.ready[story]) ? 1 : 0;
            default: return NONE;
        }
    }

    public int standby(int standby, int what) throws IndexOutOfBoundsException {
        needStandby(standby);
        Standbys standbys = plan.now.standbys;
        switch (what) {
            case 0: return standbys.size[standby];
            case 1: return orNone(standbys.page[standby]);
            default: return NONE;
        }
    }

    public int page(int page, int what) throws IndexOutOfBoundsException {
        needPage(page);
        switch (what) {
            case 0: return page / 2;
            case 1: return plan.signatureOf[page];
            case 2: return plan.formOf[page];
            case 3: return plan.left[page];
            case 4: return standing(plan.now.ads.page, plan.now.ads.number, page);
            case 5: return plan.storyOn[page];
            case 6: return standing(plan.now.standbys.page, plan.now.standbys.number, page);
            default: return NONE;
        }
    }

    /** Counts the items, whose pages are given, that stand on a page. */
    private static int standing(int[] pages, int number, int page) {
        int found = 0;
        for (int i = 0; i < number && i < pages.length; i++) {
            if (pages[i] == page) {
                found++;
            }
        }
        return found;
    }

    public int adOn(int page, int index) throws IndexOutOfBoundsException {
        needPage(page);
        Ads ads = plan.now.ads;
        int before = 0;
        for (int ad = 0; ad < ads.number; ad++) {
            if (ads.page[ad] == page) {
                if (before == index) {
                    return ad;
                }
                before++;
            }
        }
        return NONE;
    }

    public int form(int form, int what) throws IndexOutOfBoundsException {
        needForm(form);
        Forms forms = plan.now.forms;
        switch (what) {
            case 0: return forms.color[form];
            case 1: return forms.printed[form];
            case 2: return orNone(forms.closing[form]);
            case 3: return plan.now.signaturePages / 2;
            case 4: return plan.leftOnForm(form);
            case 5: return plan.adsOnForm(form);
            case 6: return plan.lateOnForm(form);
            case 7: return plan.hasColorItem(form) ? 1 : 0;
            default: return NONE;
        }
    }

    public int pageOf(int form, int index) throws IndexOutOfBoundsException {
        needForm(form);
        int before = 0;
        for (int page = 1; page <= plan.pages; page++) {
            if (plan.formOf[page] == form) {
                if (before == index) {
                    return page;
                }
                before++;
            }
        }
        return NONE;
    }

    // ---- placing and removing

    public int reason(int ad, int page) throws IndexOutOfBoundsException {
        needAd(ad);
        return plan.adReason(ad, page);
    }

    public int storyReason(int story, int page) throws IndexOutOfBoundsException {
        needStory(story);
        return plan.layReason(story, page);
    }

    public int put(int ad, int page) throws IndexOutOfBoundsException {
        needAd(ad);
        int why = plan.adReason(ad, page);
        if (why != 1 && plan.isPrinted(plan.now.ads.page[ad])) {
            why = 2;
        }
        if (why == 0) {
            history.keep(plan.now);
            plan.now.ads.page[ad] = page;
            plan.recount();
        }
        return why;
    }

    public int lay(int story, int page) throws IndexOutOfBoundsException {
        needStory(story);
        int why = plan.layReason(story, page);
        if (why != 1 && plan.storyIsPrinted(story)) {
            why = 2;
        }
        if (why == 0) {
            history.keep(plan.now);
            plan.now.stories.page[story] = page;
            plan.recount();
        }
        return why;
    }

    public boolean take(int ad) throws IndexOutOfBoundsException {
        needAd(ad);
        int page = plan.now.ads.page[ad];
        if (page == 0 || plan.isPrinted(page)) {
            return false;
        }
        history.keep(plan.now);
        plan.now.ads.page[ad] = 0;
        plan.recount();
        return true;
    }

    public boolean takeStory(int story) throws IndexOutOfBoundsException {
        needStory(story);
        if (plan.now.stories.page[story] == 0 || plan.storyIsPrinted(story)) {
            return false;
        }
        history.keep(plan.now);
        plan.now.stories.page[story] = 0;
        plan.recount();
        return true;
    }

    public int use(int standby, int page) throws IndexOutOfBoundsException {
        needStandby(standby);
        int why = plan.useReason(standby, page);
        if (why == 0) {
            history.keep(plan.now);
            plan.now.standbys.page[standby] = page;
            plan.recount();
        }
        return why;
    }

    public int clear(int page) throws IndexOutOfBoundsException {
        needPage(page);
        State now = plan.now;
        int found = standing(now.ads.page, now.ads.number, page)
                + standing(now.standbys.page, now.standbys.number, page);
        if (found == 0 || plan.isPrinted(page)) {
            return REFUSED;
        }
        history.keep(now);
        for (int ad = 0; ad < now.ads.number; ad++) {
            if (now.ads.page[ad] == page) {
                now.ads.page[ad] = 0;
            }
        }
        for (int standby = 0; standby < now.standbys.number; standby++) {
            if (now.standbys.page[standby] == page) {
                now.standbys.page[standby] = 0;
            }
        }
        plan.recount();
        return found;
    }

    public int exchange(int one, int other) throws IndexOutOfBoundsException {
        needPage(one);
        needPage(other);
        int why = plan.exchangeReason(one, other);
        if (why == 0) {
            State now = plan.now;
            history.keep(now);
            for (int ad = 0; ad < now.ads.number; ad++) {
                now.ads.page[ad] = Plan.exchanged(now.ads.page[ad], one, other);
            }
            for (int standby = 0; standby < now.standbys.number; standby++) {
                now.standbys.page[standby] = Plan.exchanged(now.standbys.page[standby], one, other);
            }
            plan.recount();
        }
        return why;
    }

    // ---- forms and time

    public boolean setColor(int form, boolean color) throws IndexOutOfBoundsException {
        needForm(form);
        Forms forms = plan.now.forms;
        if (forms.printed[form] == 1 || (!color && plan.hasColorItem(form))) {
            return false;
        }
        history.keep(plan.now);
        forms.color[form] = color ? 1 : 0;
        return true;
    }

    public int setClosing(int form, int time)
            throws IndexOutOfBoundsException, IllegalArgumentException {
        needForm(form);
        if (time < 1 || time > LAST_HOUR) {
            throw new IllegalArgumentException("a closing time is 1 to 9999");
        }
        Forms forms = plan.now.forms;
        if (forms.printed[form] == 1) {
            return REFUSED;
        }
        history.keep(plan.now);
        int previous = forms.closing[form];
        forms.closing[form] = time;
        plan.closeDueForms();
        return orNone(previous);
    }

    public int pass(int hours) throws IllegalArgumentException {
        if (hours < 1 || hours > 500) {
            throw new IllegalArgumentException("1 to 500 hours can pass");
        }
        if (plan.now.time + hours > LAST_HOUR) {
            return FULL;
        }
        history.keep(plan.now);
        int closed = 0;
        for (int hour = 0; hour < hours; hour++) {
            plan.now.time++;
            closed += plan.closeDueForms();
        }
        return closed;
    }

    public int print(int form) throws IndexOutOfBoundsException {
        needForm(form);
        if (plan.now.forms.printed[form] == 1 || plan.lateOnForm(form) > 0) {
            return REFUSED;
        }
        history.keep(plan.now);
        plan.now.forms.printed[form] = 1;
        return plan.leftOnForm(form);
    }

    public int nextClosing() {
        return plan.soonestForm();
    }

    // ---- searches

    public int placeAds() {
        history.keep(plan.now);
        return searches.placeFreeAds();
    }

    public int layStories() {
        history.keep(plan.now);
        return searches.layFreeStories();
    }

    public int choices(int ad) throws IndexOutOfBoundsException {
        needAd(ad);
        return searches.pagesFor(ad);
    }

    public int firstPage(int ad, int from) throws IndexOutOfBoundsException {
        needAd(ad);
        return plan.firstFor(ad, from);
    }

    public int tightest() {
        return searches.tightestAd();
    }

    public int eviction(int ad, int page) throws IndexOutOfBoundsException {
        needAd(ad);
        needPage(page);
        return searches.evictedPrices(ad, page);
    }

    public int cheapestPage(int ad) throws IndexOutOfBoundsException {
        needAd(ad);
        return searches.cheapestFor(ad);
    }

    public int matching() {
        return searches.matchedAds();
    }

    public int bestColor(int forms) throws IllegalArgumentException {
        if (forms < 1 || forms > MOST_FORMS) {
            throw new IllegalArgumentException("1 to 8 forms can be asked for");
        }
        return searches.roomiestForms(forms);
    }

    public int betterExchange() {
        return searches.bestExchange();
    }

    public int lateItem(int k) {
        return searches.lateItemAt(k);
    }

    public int lastReady() {
        return searches.readyLast();
    }

    public int emptyRun(int length) throws IllegalArgumentException {
        if (length < 1 || length > MOST_PAGES) {
            throw new IllegalArgumentException("a run has 1 to 64 pages");
        }
        int run = 0;
        for (int page = 1; page <= plan.pages; page++) {
            run = plan.left[page] == QUARTERS ? run + 1 : 0;
            if (run == length) {
                return page - length + 1;
            }
        }
        return NONE;
    }

    public int emptiest(int k) {
        int before = 0;
        for (int left = QUARTERS; left >= 0; left--) {
            for (int page = 1; page <= plan.pages; page++) {
                if (plan.left[page] == left) {
                    if (before == k) {
                        return page;
                    }
                    before++;
                }
            }
        }
        return NONE;
    }

    // ---- rivals and sums

    public int nearRivals() {
        Ads ads = plan.now.ads;
        int pairs = 0;
        for (int one = 0; one < ads.number; one++) {
            for (int other = one + 1; other < ads.number; other++) {
                if (ads.page[one] != 0 && ads.page[other] != 0 && ads.areRivals(one, other)
                        && Math.abs(ads.page[one] / 2 - ads.page[other] / 2) == 1) {
                    pairs++;
                }
            }
        }
        return pairs;
    }

    public int groupOn(int group, int spread) throws IllegalArgumentException {
        needGroup(group);
        if (spread < 0 || spread > plan.pages / 2) {
            throw new IllegalArgumentException("no such spread");
        }
        return plan.adsOfGroup[group * MOST_SPREADS + spread];
    }

    public int spreadsOf(int group) throws IllegalArgumentException {
        needGroup(group);
        int found = 0;
        for (int spread = 0; spread <= plan.pages / 2; spread++) {
            if (plan.adsOfGroup[group * MOST_SPREADS + spread] > 0) {
                found++;
            }
        }
        return found;
    }

    public int revenue() {
        Ads ads = plan.now.ads;
        int sum = 0;
        for (int ad = 0; ad < ads.number; ad++) {
            if (ads.page[ad] != 0) {
                sum += ads.price[ad];
            }
        }
        return sum;
    }

    public int revenueOf(int form) throws IndexOutOfBoundsException {
        needForm(form);
        Ads ads = plan.now.ads;
        int sum = 0;
        for (int ad = 0; ad < ads.number; ad++) {
            if (plan.formAt(ads.page[ad]) == form) {
                sum += ads.price[ad];
            }
        }
        return sum;
    }

    public int revenueOfGroup(int group) throws IllegalArgumentException {
        needGroup(group);
        Ads ads = plan.now.ads;
        int sum = 0;
        for (int ad = 0; ad < ads.number; ad++) {
            if (ads.page[ad] != 0 && ads.group[ad] == group) {
                sum += ads.price[ad];
            }
        }
        return sum;
    }

    public int lost() {
        return plan.now.lost;
    }

    public int endangered() {
        Ads ads = plan.now.ads;
        Forms forms = plan.now.forms;
        int sum = 0;
        for (int ad = 0; ad < ads.number; ad++) {
            int form = plan.formAt(ads.page[ad]);
            if (form != NONE && forms.printed[form] == 0 && forms.closing[form] != 0
                    && forms.closing[form] < ads.ready[ad]) {
                sum += ads.price[ad];
            }
        }
        return sum;
    }

    public double fill() {
        int left = 0;
        for (int page = 1; page <= plan.pages; page++) {
            left += plan.left[page];
        }
        int all = QUARTERS * plan.pages;
        return all > 0 ? (double) (all - left) / (double) all : 0.0;
    }

    public double quarterPrice() throws ArithmeticException {
        Ads ads = plan.now.ads;
        int sizes = 0;
        for (int ad = 0; ad < ads.number; ad++) {
            if (ads.page[ad] != 0) {
                sizes += ads.size[ad];
            }
        }
        if (sizes == 0) {
            throw new ArithmeticException("no ad is placed");
        }
        return (double) revenue() / (double) sizes;
    }

    // ---- texts, digest and undo

    public int describe(int page) throws IndexOutOfBoundsException {
        needPage(page);
        State now = plan.now;
        description.length = 0;
        if (plan.storyOn[page] != NONE) {
            description.addItem('s', plan.storyOn[page]);
        }
        for (int ad = 0; ad < now.ads.number; ad++) {
            if (now.ads.page[ad] == page) {
                description.addItem('a', ad);
            }
        }
        for (int standby = 0; standby < now.standbys.number; standby++) {
            if (now.standbys.page[standby] == page) {
                description.addItem('b', standby);
            }
        }
        if (plan.left[page] > 0) {
            description.addItem('+', plan.left[page]);
        }
        return description.length;
    }

    public int describedByte(int index) {
        return index >= 0 && index < description.length ? description.byteAt(index) : NONE;
    }

    public int digest() {
        State now = plan.now;
        int digest = 1;
        for (int ad = 0; ad < now.ads.number; ad++) {
            digest = 31 * digest + now.ads.page[ad];
        }
        for (int story = 0; story < now.stories.number; story++) {
            digest = 31 * digest + now.stories.page[story];
        }
        for (int standby = 0; standby < now.standbys.number; standby++) {
            digest = 31 * digest + now.standbys.page[standby];
        }
        for (int form = 0; form < plan.forms; form++) {
            digest = 31 * digest + now.forms.printed[form];
        }
        return digest;
    }

    public boolean undo() {
        return history.bringBack(plan);
    }

    public int undoCount() {
        return history.number;
    }

    // ---- what the parameters must be

    private void needAd(int ad) {
        if (ad < 0 || ad >= plan.now.ads.number) {
            throw new IndexOutOfBoundsException("no such ad");
        }
    }

    private void needStory(int story) {
        if (story < 0 || story >= plan.now.stories.number) {
            throw new IndexOutOfBoundsException("no such story");
        }
    }

    private void needStandby(int standby) {
        if (standby < 0 || standby >= plan.now.standbys.number) {
            throw new IndexOutOfBoundsException("no such standby");
        }
    }

    private void needPage(int page) {
        if (!plan.hasPage(page)) {
            throw new IndexOutOfBoundsException("no such page");
        }
    }

    private void needForm(int form) {
        if (form < 0 || form >= plan.forms) {
            throw new IndexOutOfBoundsException("no such form");
        }
    }

    private static void needGroup(int group) {
        if (group < 0 || group >= GROUPS) {
            throw new IllegalArgumentException("a group is 0 to 9");
        }
    }

    private static boolean isSize(int size) {
        return size == 1 || size == 2 || size == 4;
    }

    private static boolean isPrice(int price) {
        return price >= 1 && price <= HIGHEST_PRICE;
    }

    /** Pages and closing times are held as 0 where there is none. */
    private static int orNone(int number) {
        return number == 0 ? NONE : number;
    }

    /** A row of bytes that does not grow beyond its room. */
    private static final class Bytes {
        final int[] row;
        int length;

        Bytes(int room) {
            row = new int[room < 0 ? 0 : room];
        }

        void addByte(int one) {
            if (length >= 0 && length < row.length) {
                row[length] = one & 255;
                length++;
            }
        }

        /** The four bytes of a word, the most significant one first. */
        void addWord(int word) {
            addByte(word >> 24);
            addByte(word >> 16);
            addByte(word >> 8);
            addByte(word);
        }

        /** A sign and a number below 100, behind a space unless it comes first. */
        void addItem(char sign, int number) {
            if (length > 0) {
                addByte(' ');
            }
            addByte(sign);
            if (number >= 10) {
                addByte('0' + number / 10);
            }
            addByte('0' + number % 10);
        }

        int byteAt(int index) {
            return index >= 0 && index < row.length ? row[index] : NONE;
        }
    }

    /** The ads; one that is not placed has the page 0. */
    private static final class Ads {
        final int[] size = new int[MOST_ADS];
        final int[] group = new int[MOST_ADS];
        final int[] color = new int[MOST_ADS];
        final int[] side = new int[MOST_ADS];
        final int[] price = new int[MOST_ADS];
        final int[] ready = new int[MOST_ADS];
        final int[] page = new int[MOST_ADS];
        int number;

        /** Adds an ad without color for any side, if there is room. */
        int add(int itsSize, int itsGroup, int itsPrice, int itsReady) {
            int ad = number;
            if (ad >= MOST_ADS) {
                return FULL;
            }
            size[ad] = itsSize;
            group[ad] = itsGroup;
            color[ad] = 0;
            side[ad] = 0;
            price[ad] = itsPrice;
            ready[ad] = itsReady;
            page[ad] = 0;
            number++;
            return ad;
        }

        boolean areRivals(int one, int other) {
            return one != other && group[one] != 0 && group[one] == group[other];
        }

        void copyFrom(Ads other) {
            System.arraycopy(other.size, 0, size, 0, MOST_ADS);
            System.arraycopy(other.group, 0, group, 0, MOST_ADS);
            System.arraycopy(other.color, 0, color, 0, MOST_ADS);
            System.arraycopy(other.side, 0, side, 0, MOST_ADS);
            System.arraycopy(other.price, 0, price, 0, MOST_ADS);
            System.arraycopy(other.ready, 0, ready, 0, MOST_ADS);
            System.arraycopy(other.page, 0, page, 0, MOST_ADS);
            number = other.number;
        }
    }

    /** The stories; page is the first one, 0 if the story is not placed. */
    private static final class Stories {
        final int[] length = new int[MOST_STORIES];
        final int[] color = new int[MOST_STORIES];
        final int[] side = new int[MOST_STORIES];
        final int[] ready = new int[MOST_STORIES];
        final int[] page = new int[MOST_STORIES];
        int number;

        void add(int itsLength, int itsColor, int itsSide, int itsReady) {
            if (number < MOST_STORIES) {
                length[number] = itsLength;
                color[number] = itsColor;
                side[number] = itsSide;
                ready[number] = itsReady;
                page[number] = 0;
                number++;
            }
        }

        void copyFrom(Stories other) {
            System.arraycopy(other.length, 0, length, 0, MOST_STORIES);
            System.arraycopy(other.color, 0, color, 0, MOST_STORIES);
            System.arraycopy(other.side, 0, side, 0, MOST_STORIES);
            System.arraycopy(other.ready, 0, ready, 0, MOST_STORIES);
            System.arraycopy(other.page, 0, page, 0, MOST_STORIES);
            number = other.number;
        }
    }

    /** The standbys; one that is not used has the page 0. */
    private static final class Standbys {
        final int[] size = new int[MOST_STANDBYS];
        final int[] page = new int[MOST_STANDBYS];
        int number;

        void add(int itsSize) {
            if (number < MOST_STANDBYS) {
                size[number] = itsSize;
                page[number] = 0;
                number++;
            }
        }

        /** The lowest standby of a size that is not used, or NONE. */
        int unused(int ofSize) {
            for (int standby = 0; standby < number; standby++) {
                if (page[standby] == 0 && size[standby] == ofSize) {
                    return standby;
                }
            }
            return NONE;
        }

        void copyFrom(Standbys other) {
            System.arraycopy(other.size, 0, size, 0, MOST_STANDBYS);
            System.arraycopy(other.page, 0, page, 0, MOST_STANDBYS);
            number = other.number;
        }
    }

    /** The forms: color and printed are 1 or 0, closing is 0 if none was told. */
    private static final class Forms {
        final int[] color = new int[MOST_FORMS];
        final int[] printed = new int[MOST_FORMS];
        final int[] closing = new int[MOST_FORMS];

        void copyFrom(Forms other) {
            System.arraycopy(other.color, 0, color, 0, MOST_FORMS);
            System.arraycopy(other.printed, 0, printed, 0, MOST_FORMS);
            System.arraycopy(other.closing, 0, closing, 0, MOST_FORMS);
        }
    }

    /** All that undo() brings back and load() replaces. */
    private static final class State {
        final Ads ads = new Ads();
        final Stories stories = new Stories();
        final Standbys standbys = new Standbys();
        final Forms forms = new Forms();
        int signatures;
        int signaturePages;
        int time;
        int lost;

        void copyFrom(State other) {
            ads.copyFrom(other.ads);
            stories.copyFrom(other.stories);
            standbys.copyFrom(other.standbys);
            forms.copyFrom(other.forms);
            signatures = other.signatures;
            signaturePages = other.signaturePages;
            time = other.time;
            lost = other.lost;
        }
    }

    /** The states before the latest changes, in a ring. */
    private static final class History {
        final State[] kept = new State[MOST_CHANGES];
        int next;
        int number;

        History() {
            for (int i = 0; i < MOST_CHANGES; i++) {
                kept[i] = new State();
            }
        }

        void keep(State state) {
            kept[next].copyFrom(state);
            next = next + 1 < MOST_CHANGES ? next + 1 : 0;
            number = Math.min(number + 1, MOST_CHANGES);
        }

        boolean bringBack(Plan plan) {
            if (number == 0) {
                return false;
            }
            next = next > 0 ? next - 1 : MOST_CHANGES - 1;
            number--;
            plan.become(kept[next]);
            return true;
        }

        void forget() {
            number = 0;
        }
    }

    /** A state, tables of what follows from it, and the rules of the magazine. */
    private static final class Plan {
        final State now = new State();
        int pages;
        int forms;
        final int[] formOf = new int[MOST_PAGES + 1];
        final int[] signatureOf = new int[MOST_PAGES + 1];
        final int[] left = new int[MOST_PAGES + 1];
        final int[] storyOn = new int[MOST_PAGES + 1];
        final int[] adsOfGroup = new int[GROUPS * MOST_SPREADS];

        Plan() {
            begin(1, 16);
        }

        /** Empties the plan and gives it signatures of so many pages each. */
        void begin(int signatures, int signaturePages) {
            now.signatures = signatures;
            now.signaturePages = signaturePages;
            now.ads.number = 0;
            now.stories.number = 0;
            now.standbys.number = 0;
            now.time = 0;
            now.lost = 0;
            Arrays.fill(now.forms.color, 0);
            Arrays.fill(now.forms.printed, 0);
            Arrays.fill(now.forms.closing, 0);
            layOut();
            recount();
        }

        void become(State state) {
            now.copyFrom(state);
            layOut();
            recount();
        }

        private void layOut() {
            pages = Math.min(now.signatures * now.signaturePages, MOST_PAGES);
            forms = Math.min(2 * now.signatures, MOST_FORMS);
            int page = 1;
            for (int signature = 0; signature < now.signatures; signature++) {
                for (int k = 0; k < now.signaturePages && page <= pages; k++) {
                    boolean outer = k % 4 == 0 || k % 4 == 3;
                    signatureOf[page] = signature;
                    formOf[page] = 2 * signature + (outer ? 0 : 1);
                    page++;
                }
            }
        }

        /** Makes the tables anew; called whenever an item has moved. */
        void recount() {
            Arrays.fill(left, QUARTERS);
            Arrays.fill(storyOn, NONE);
            Arrays.fill(adsOfGroup, 0);
            Ads ads = now.ads;
            for (int ad = 0; ad < ads.number; ad++) {
                int page = ads.page[ad];
                if (hasPage(page)) {
                    left[page] -= ads.size[ad];
                    adsOfGroup[ads.group[ad] * MOST_SPREADS + page / 2]++;
                }
            }
            Standbys standbys = now.standbys;
            for (int standby = 0; standby < standbys.number; standby++) {
                int page = standbys.page[standby];
                if (hasPage(page)) {
                    left[page] -= standbys.size[standby];
                }
            }
            Stories stories = now.stories;
            for (int story = 0; story < stories.number; story++) {
                int first = stories.page[story];
                int end = hasPage(first) ? Math.min(first + stories.length[story], pages + 1) : 0;
                for (int page = first; page < end; page++) {
                    left[page] = 0;
                    storyOn[page] = story;
                }
            }
        }

        boolean hasPage(int page) {
            return page >= 1 && page <= pages;
        }

        /** The form of a page; NONE for 0, the page of what is not placed. */
        int formAt(int page) {
            return page >= 1 && page <= pages ? formOf[page] : NONE;
        }

        boolean isPrinted(int page) {
            return page >= 1 && page <= pages && now.forms.printed[formOf[page]] == 1;
        }

        boolean isLate(int ready) {
            return now.time < ready;
        }

        private static boolean isWrongSide(int side, int page) {
            return (side == 1 && page % 2 != 0) || (side == 2 && page % 2 == 0);
        }

        /** Whether a page does not suit an ad, whatever stands on it. */
        boolean isUnfit(int ad, int page) {
            return isPrinted(page) || lacksColor(now.ads.color[ad], page)
                    || isWrongSide(now.ads.side[ad], page);
        }

        private boolean lacksColor(int color, int page) {
            return color == 1 && page >= 1 && page <= pages && now.forms.color[formOf[page]] == 0;
        }

        int adReason(int ad, int page) {
            if (!hasPage(page)) {
                return 1;
            }
            if (isPrinted(page)) {
                return 2;
            }
            if (roomFor(ad, page) < now.ads.size[ad]) {
                return 3;
            }
            if (lacksColor(now.ads.color[ad], page)) {
                return 4;
            }
            if (isWrongSide(now.ads.side[ad], page)) {
                return 5;
            }
            return meetsRival(ad, page / 2) ? 6 : 0;
        }

        /** The quarters that are left on a page if the ad does not stand there. */
        int roomFor(int ad, int page) {
            return left[page] + (now.ads.page[ad] == page ? now.ads.size[ad] : 0);
        }

        private boolean meetsRival(int ad, int spread) {
            int group = now.ads.group[ad];
            int page = now.ads.page[ad];
            int itself = page != 0 && page / 2 == spread ? 1 : 0;
            return group != 0 && adsOfGroup[group * MOST_SPREADS + spread] > itself;
        }

        int layReason(int story, int page) {
            int length = now.stories.length[story];
            if (page < 1 || page > pages || page + length - 1 > pages) {
                return 1;
            }
            int why = isWrongSide(now.stories.side[story], page) ? 5 : 0;
            for (int i = 0; i < length; i++) {
                why = lowerReason(why, pageReason(story, page + i));
            }
            return why;
        }

        /** Why one page cannot be a page of a story, its side left aside. */
        private int pageReason(int story, int page) {
            if (isPrinted(page)) {
                return 2;
            }
            if (left[page] < QUARTERS && storyOn[page] != story) {
                return 3;
            }
            return lacksColor(now.stories.color[story], page) ? 4 : 0;
        }

        private static int lowerReason(int one, int other) {
            if (one == 0 || other == 0) {
                return one + other;
            }
            return Math.min(one, other);
        }

        int useReason(int standby, int page) {
            int size = now.standbys.size[standby];
            int from = now.standbys.page[standby];
            if (!hasPage(page)) {
                return 1;
            }
            if (isPrinted(page) || isPrinted(from)) {
                return 2;
            }
            int room = left[page] + (from == page ? size : 0);
            return room < size ? 3 : 0;
        }

        int exchangeReason(int one, int other) {
            if (isPrinted(one) || isPrinted(other)) {
                return 2;
            }
            if (storyOn[one] != NONE || storyOn[other] != NONE) {
                return 3;
            }
            int why = 0;
            for (int ad = 0; ad < now.ads.number && one != other; ad++) {
                if (now.ads.page[ad] == one || now.ads.page[ad] == other) {
                    why = lowerReason(why, exchangedReason(ad, one, other));
                }
            }
            return why;
        }

        /** Why an ad cannot stand where it would stand if two pages were exchanged. */
        private int exchangedReason(int ad, int one, int other) {
            int to = exchanged(now.ads.page[ad], one, other);
            if (lacksColor(now.ads.color[ad], to)) {
                return 4;
            }
            if (isWrongSide(now.ads.side[ad], to)) {
                return 5;
            }
            for (int rival = 0; rival < now.ads.number; rival++) {
                int page = exchanged(now.ads.page[rival], one, other);
                if (now.ads.areRivals(ad, rival) && page != 0 && page / 2 == to / 2) {
                    return 6;
                }
            }
            return 0;
        }

        /** Where something that stands on a page stands when two pages are exchanged. */
        static int exchanged(int page, int one, int other) {
            if (page == one) {
                return other;
            }
            return page == other ? one : page;
        }

        boolean storyIsOn(int story, int form) {
            int first = now.stories.page[story];
            for (int i = 0; first != 0 && i < now.stories.length[story]; i++) {
                if (formAt(first + i) == form) {
                    return true;
                }
            }
            return false;
        }

        boolean storyIsPrinted(int story) {
            return storyIsOnFormThat(story, 1);
        }

        boolean storyIsOpen(int story) {
            return storyIsOnFormThat(story, 0);
        }

        private boolean storyIsOnFormThat(int story, int isPrinted) {
            for (int form = 0; form < forms; form++) {
                if (now.forms.printed[form] == isPrinted && storyIsOn(story, form)) {
                    return true;
                }
            }
            return false;
        }

        int leftOnForm(int form) {
            int sum = 0;
            for (int page = 1; page <= pages; page++) {
                if (formOf[page] == form) {
                    sum += left[page];
                }
            }
            return sum;
        }

        int adsOnForm(int form) {
            int found = 0;
            for (int ad = 0; ad < now.ads.number; ad++) {
                if (formAt(now.ads.page[ad]) == form) {
                    found++;
                }
            }
            return found;
        }

        int lateOnForm(int form) {
            int found = 0;
            for (int ad = 0; ad < now.ads.number; ad++) {
                if (formAt(now.ads.page[ad]) == form && isLate(now.ads.ready[ad])) {
                    found++;
                }
            }
            for (int story = 0; story < now.stories.number; story++) {
                if (isLate(now.stories.ready[story]) && storyIsOn(story, form)) {
                    found++;
                }
            }
            return found;
        }

        boolean hasColorItem(int form) {
            for (int ad = 0; ad < now.ads.number; ad++) {
                if (now.ads.color[ad] == 1 && formAt(now.ads.page[ad]) == form) {
                    return true;
                }
            }
            for (int story = 0; story < now.stories.number; story++) {
                if (now.stories.color[story] == 1 && storyIsOn(story, form)) {
                    return true;
                }
            }
            return false;
        }

        /** The open form with the least closing time, the lowest on a tie, or NONE. */
        int soonestForm() {
            int soonest = NONE;
            for (int form = 0; form < forms; form++) {
                int closing = now.forms.closing[form];
                if (now.forms.printed[form] == 0 && closing != 0
                        && (soonest == NONE || closing < now.forms.closing[soonest])) {
                    soonest = form;
                }
            }
            return soonest;
        }

        /** Closes the forms whose closing time is reached and returns how many they are. */
        int closeDueForms() {
            int closed = 0;
            for (int i = 0; i < forms; i++) {
                int form = soonestForm();
                if (form == NONE || now.forms.closing[form] > now.time) {
                    return closed;
                }
                closeForm(form);
                closed++;
            }
            return closed;
        }

        private void closeForm(int form) {
            for (int story = 0; story < now.stories.number; story++) {
                if (isLate(now.stories.ready[story]) && storyIsOn(story, form)) {
                    now.stories.page[story] = 0;
                }
            }
            for (int page = 1; page <= pages; page++) {
                if (formOf[page] == form) {
                    replaceLateAds(page);
                }
            }
            now.forms.printed[form] = 1;
            recount();
        }

        private void replaceLateAds(int page) {
            Ads ads = now.ads;
            for (int ad = 0; ad < ads.number; ad++) {
                if (ads.page[ad] == page && isLate(ads.ready[ad])) {
                    ads.page[ad] = 0;
                    now.lost += ads.price[ad];
                    int standby = now.standbys.unused(ads.size[ad]);
                    if (standby != NONE) {
                        now.standbys.page[standby] = page;
                    }
                }
            }
        }

        /** The first page from one on with the reason 0, or NONE. */
        int firstFor(int ad, int from) {
            for (int page = Math.max(from, 1); page <= pages; page++) {
                if (adReason(ad, page) == 0) {
                    return page;
                }
            }
            return NONE;
        }
    }

    /** A plan and the searches in it, with rows that they use again. */
    private static final class Searches {
        final Plan plan = new Plan();
        final State now = plan.now;
        final int[] order = new int[MOST_ADS];
        final int[] onPage = new int[QUARTERS];
        final int[] adMatched = new int[MOST_PAGES + 1];
        final int[] pageMatched = new int[MOST_ADS];
        final int[] reachedBy = new int[MOST_PAGES + 1];
        final int[] waiting = new int[MOST_ADS];
        final int[] colorPages = new int[MOST_FORMS];
        final int[] hasColor = new int[MOST_PAGES + 1];

        int placeFreeAds() {
            int number = 0;
            for (int ad = 0; ad < now.ads.number; ad++) {
                if (now.ads.page[ad] == 0) {
                    insertAd(ad, number);
                    number++;
                }
            }
            int found = 0;
            for (int i = 0; i < number; i++) {
                int page = plan.firstFor(order[i], 1);
                if (page != NONE) {
                    now.ads.page[order[i]] = page;
                    plan.recount();
                    found++;
                }
            }
            return found;
        }

        /** Inserts an ad among the first ones of the order, behind those of its rank. */
        private void insertAd(int ad, int number) {
            int place = number;
            while (place > 0 && comesBefore(ad, order[place - 1])) {
                order[place] = order[place - 1];
                place--;
            }
            order[place] = ad;
        }

        private boolean comesBefore(int ad, int other) {
            Ads ads = now.ads;
            if (ads.price[ad] != ads.price[other]) {
                return ads.price[ad] > ads.price[other];
            }
            return ads.size[ad] > ads.size[other];
        }

        int layFreeStories() {
            int found = 0;
            for (int length = 8; length >= 1; length--) {
                for (int story = 0; story < now.stories.number; story++) {
                    if (now.stories.length[story] == length && now.stories.page[story] == 0
                            && layFirst(story)) {
                        found++;
                    }
                }
            }
            return found;
        }

        private boolean layFirst(int story) {
            for (int page = 1; page <= plan.pages; page++) {
                if (plan.layReason(story, page) == 0) {
                    now.stories.page[story] = page;
                    plan.recount();
                    return true;
                }
            }
            return false;
        }

        int pagesFor(int ad) {
            int found = 0;
            for (int page = 1; page <= plan.pages; page++) {
                if (plan.adReason(ad, page) == 0) {
                    found++;
                }
            }
            return found;
        }

        int tightestAd() {
            int tightest = NONE;
            int fewest = 0;
            for (int ad = 0; ad < now.ads.number; ad++) {
                if (now.ads.page[ad] == 0) {
                    int number = pagesFor(ad);
                    if (tightest == NONE || number < fewest) {
                        tightest = ad;
                        fewest = number;
                    }
                }
            }
            return tightest;
        }

        int evictedPrices(int ad, int page) {
            if (plan.isUnfit(ad, page) || plan.storyOn[page] != NONE) {
                return NONE;
            }
            int beside = rivalPricesBeside(ad, page);
            int here = pricesForRoom(ad, page);
            return beside == NONE || here == NONE ? NONE : beside + here;
        }

        /** The prices of the rivals on the other page of the spread; NONE if one must stay. */
        private int rivalPricesBeside(int ad, int page) {
            int sum = 0;
            for (int rival = 0; rival < now.ads.number; rival++) {
                int its = now.ads.page[rival];
                if (its != 0 && its != page && its / 2 == page / 2
                        && now.ads.areRivals(ad, rival)) {
                    if (plan.isPrinted(its)) {
                        return NONE;
                    }
                    sum += now.ads.price[rival];
                }
            }
            return sum;
        }

        /** The least prices of ads on a page, its rivals among them, without which it has room. */
        private int pricesForRoom(int ad, int page) {
            int number = 0;
            for (int other = 0; other < now.ads.number && number < QUARTERS; other++) {
                if (other != ad && now.ads.page[other] == page) {
                    onPage[number] = other;
                    number++;
                }
            }
            int best = NONE;
            for (int removed = 0; removed < 1 << number; removed++) {
                int sum = removedPrices(ad, page, number, removed);
                if (sum != NONE && (best == NONE || sum < best)) {
                    best = sum;
                }
            }
            return best;
        }

        /** The prices of the removed ones of the ads on a page; NONE if that does not do. */
        private int removedPrices(int ad, int page, int number, int removed) {
            int room = plan.roomFor(ad, page);
            int sum = 0;
            for (int i = 0; i < number; i++) {
                if ((removed >> i & 1) == 1) {
                    room += now.ads.size[onPage[i]];
                    sum += now.ads.price[onPage[i]];
                } else if (now.ads.areRivals(ad, onPage[i])) {
                    return NONE;
                }
            }
            return room < now.ads.size[ad] ? NONE : sum;
        }

        int cheapestFor(int ad) {
            int cheapest = NONE;
            int least = 0;
            for (int page = 1; page <= plan.pages; page++) {
                int sum = evictedPrices(ad, page);
                if (sum != NONE && (cheapest == NONE || sum < least)) {
                    cheapest = page;
                    least = sum;
                }
            }
            return cheapest;
        }

        int matchedAds() {
            Arrays.fill(adMatched, NONE);
            Arrays.fill(pageMatched, 0);
            int found = 0;
            for (int ad = 0; ad < now.ads.number; ad++) {
                if (now.ads.size[ad] == QUARTERS && now.ads.page[ad] == 0 && matchOneMore(ad)) {
                    found++;
                }
            }
            return found;
        }

        /** Looks for a way from an ad to a page that has no partner, nearest pages first. */
        private boolean matchOneMore(int start) {
            Arrays.fill(reachedBy, NONE);
            waiting[0] = start;
            int end = 1;
            for (int i = 0; i < end && i < MOST_ADS; i++) {
                for (int page = 1; page <= plan.pages; page++) {
                    if (reachedBy[page] == NONE && mayMatch(waiting[i], page)) {
                        reachedBy[page] = waiting[i];
                        if (adMatched[page] == NONE) {
                            changePartners(page);
                            return true;
                        }
                        if (end < MOST_ADS) {
                            waiting[end] = adMatched[page];
                            end++;
                        }
                    }
                }
            }
            return false;
        }

        private boolean mayMatch(int ad, int page) {
            int why = plan.adReason(ad, page);
            return why == 0 || why == 6;
        }

        /** Matches a page with the ad that reached it, the ad's old page likewise, and so on. */
        private void changePartners(int last) {
            int page = last;
            for (int i = 0; i < MOST_PAGES && page != 0; i++) {
                int ad = reachedBy[page];
                if (ad == NONE) {
                    return;
                }
                int before = pageMatched[ad];
                pageMatched[ad] = page;
                adMatched[page] = ad;
                page = before;
            }
        }

        int roomiestForms(int number) {
            int best = 0;
            int most = NONE;
            for (int set = 1; set < 1 << plan.forms; set++) {
                if (Integer.bitCount(set) == number) {
                    int left = leftOnSet(set);
                    if (left > most) {
                        best = set;
                        most = left;
                    }
                }
            }
            return best;
        }

        /** The quarters left on a set of forms; NONE if one is printed or has color. */
        private int leftOnSet(int set) {
            int sum = 0;
            for (int form = 0; form < plan.forms; form++) {
                if ((set >> form & 1) == 1) {
                    if (now.forms.printed[form] == 1 || now.forms.color[form] == 1) {
                        return NONE;
                    }
                    sum += plan.leftOnForm(form);
                }
            }
            return sum;
        }

        int bestExchange() {
            countColorPages();
            int best = NONE;
            int most = 0;
            for (int one = 1; one <= plan.pages; one++) {
                for (int other = one + 1; other <= plan.pages; other++) {
                    int fewer = fewerColorForms(one, other);
                    if (fewer > most && plan.exchangeReason(one, other) == 0) {
                        best = 100 * one + other;
                        most = fewer;
                    }
                }
            }
            return best;
        }

        private void countColorPages() {
            Arrays.fill(hasColor, 0);
            Arrays.fill(colorPages, 0);
            for (int ad = 0; ad < now.ads.number; ad++) {
                if (plan.hasPage(now.ads.page[ad]) && now.ads.color[ad] == 1) {
                    hasColor[now.ads.page[ad]] = 1;
                }
            }
            for (int page = 1; page <= plan.pages; page++) {
                int story = plan.storyOn[page];
                if (story != NONE && now.stories.color[story] == 1) {
                    hasColor[page] = 1;
                }
                colorPages[plan.formOf[page]] += hasColor[page];
            }
        }

        /** By how many forms with color items fewer there are after an exchange. */
        private int fewerColorForms(int one, int other) {
            int formOfOne = plan.formOf[one];
            int formOfOther = plan.formOf[other];
            if (formOfOne == formOfOther) {
                return 0;
            }
            int moved = hasColor[other] - hasColor[one];
            return oneIfAny(colorPages[formOfOne]) + oneIfAny(colorPages[formOfOther])
                    - oneIfAny(colorPages[formOfOne] + moved)
                    - oneIfAny(colorPages[formOfOther] - moved);
        }

        private static int oneIfAny(int number) {
            return number > 0 ? 1 : 0;
        }

        int lateItemAt(int k) {
            if (k < 0 || k >= MOST_ADS + MOST_STORIES) {
                return NONE;
            }
            int rank = NONE;
            for (int i = 0; i <= k; i++) {
                rank = nextLateRank(rank);
                if (rank == NONE) {
                    return NONE;
                }
            }
            return rank % (2 * STORY_BASE);
        }

        /** The least rank of a late item that is greater than a given one, or NONE. */
        private int nextLateRank(int after) {
            int next = NONE;
            for (int ad = 0; ad < now.ads.number; ad++) {
                if (adIsOpen(ad) && plan.isLate(now.ads.ready[ad])) {
                    next = nearerRank(after, next, rankOf(now.ads.ready[ad], ad));
                }
            }
            for (int story = 0; story < now.stories.number; story++) {
                if (plan.storyIsOpen(story) && plan.isLate(now.stories.ready[story])) {
                    int rank = rankOf(now.stories.ready[story], STORY_BASE + story);
                    next = nearerRank(after, next, rank);
                }
            }
            return next;
        }

        private static int rankOf(int ready, int item) {
            return 2 * STORY_BASE * ready + item;
        }

        private static int nearerRank(int after, int next, int rank) {
            return rank > after && (next == NONE || rank < next) ? rank : next;
        }

        private boolean adIsOpen(int ad) {
            return now.ads.page[ad] != 0 && !plan.isPrinted(now.ads.page[ad]);
        }

        int readyLast() {
            int last = NONE;
            int latest = NONE;
            for (int ad = 0; ad < now.ads.number; ad++) {
                if (adIsOpen(ad) && now.ads.ready[ad] > latest) {
                    last = ad;
                    latest = now.ads.ready[ad];
                }
            }
            for (int story = 0; story < now.stories.number; story++) {
                if (plan.storyIsOpen(story) && now.stories.ready[story] > latest) {
                    last = STORY_BASE + story;
                    latest = now.stories.ready[story];
                }
            }
            return last;
        }
    }

    /** The input buffer, read into a draft, and the first error of the text. */
    private static final class Reader {
        static final int END = 0;
        static final int WORD = 1;
        static final int NUMBER = 2;
        static final int SEMICOLON = 3;
        static final int NO_TOKEN = 4;

        final Bytes text = new Bytes(MOST_INPUT);
        final Plan draft = new Plan();
        final int[] value = new int[6];
        int at;
        int kind;
        int start;
        int code;
        int position = NONE;

        /** The number of statements; NONE if there is an error. */
        int readText() {
            code = 0;
            position = NONE;
            at = 0;
            draft.begin(1, 16);
            nextToken();
            if (isWord("plan")) {
                if (!readPlan()) {
                    return NONE;
                }
                nextToken();
            }
            int statements = 0;
            for (int i = 0; i <= MOST_INPUT && kind != END; i++) {
                if (!readStatement()) {
                    return NONE;
                }
                statements++;
                nextToken();
            }
            return statements;
        }

        private boolean readPlan() {
            if (!readNumber(0, 1, 4) || !readNumber(1, 4, 16)) {
                return false;
            }
            if (value[1] != 4 && value[1] != 8 && value[1] != 16) {
                return fail(2);
            }
            draft.begin(value[0], value[1]);
            return readSemicolon();
        }

        private boolean readStatement() {
            if (isWord("color")) {
                return readColor();
            }
            if (isWord("ad")) {
                return readAd();
            }
            if (isWord("story")) {
                return readStory();
            }
            if (isWord("standby")) {
                return readStandby();
            }
            if (isWord("close")) {
                return readClose();
            }
            if (isWord("put")) {
                return readPut();
            }
            return isWord("lay") ? readLay() : fail(1);
        }

        private boolean readColor() {
            if (!readNumber(0, 0, draft.forms - 1)) {
                return false;
            }
            draft.now.forms.color[value[0]] = 1;
            return readSemicolon();
        }

        private boolean readAd() {
            Ads ads = draft.now.ads;
            if (ads.number >= MOST_ADS) {
                return fail(3);
            }
            if (!readNumber(0, 1, 4) || !firstIsSize() || !readNumber(1, 0, GROUPS - 1)
                    || !readNumber(2, 0, 1) || !readNumber(3, 0, 2)
                    || !readNumber(4, 1, HIGHEST_PRICE) || !readNumber(5, 0, LAST_HOUR)) {
                return false;
            }
            int ad = ads.add(value[0], value[1], value[4], value[5]);
            if (ad >= 0) {
                ads.color[ad] = value[2];
                ads.side[ad] = value[3];
            }
            return readSemicolon();
        }

        private boolean readStory() {
            if (draft.now.stories.number >= MOST_STORIES) {
                return fail(3);
            }
            if (!readNumber(0, 1, 8) || !readNumber(1, 0, 1) || !readNumber(2, 0, 2)
                    || !readNumber(3, 0, LAST_HOUR)) {
                return false;
            }
            draft.now.stories.add(value[0], value[1], value[2], value[3]);
            return readSemicolon();
        }

        private boolean readStandby() {
            if (draft.now.standbys.number >= MOST_STANDBYS) {
                return fail(3);
            }
            if (!readNumber(0, 1, 4) || !firstIsSize()) {
                return false;
            }
            draft.now.standbys.add(value[0]);
            return readSemicolon();
        }

        private boolean readClose() {
            if (!readNumber(0, 0, draft.forms - 1) || !readNumber(1, 1, LAST_HOUR)) {
                return false;
            }
            draft.now.forms.closing[value[0]] = value[1];
            return readSemicolon();
        }

        private boolean readPut() {
            Ads ads = draft.now.ads;
            if (!readNumber(0, 0, ads.number - 1) || !readNumber(1, 1, draft.pages)) {
                return false;
            }
            if (ads.page[value[0]] != 0 || draft.adReason(value[0], value[1]) != 0) {
                return fail(4);
            }
            ads.page[value[0]] = value[1];
            draft.recount();
            return readSemicolon();
        }

        private boolean readLay() {
            Stories stories = draft.now.stories;
            if (!readNumber(0, 0, stories.number - 1) || !readNumber(1, 1, draft.pages)) {
                return false;
            }
            if (stories.page[value[0]] != 0 || draft.layReason(value[0], value[1]) != 0) {
                return fail(4);
            }
            stories.page[value[0]] = value[1];
            draft.recount();
            return readSemicolon();
        }

        private boolean firstIsSize() {
            return isSize(value[0]) || fail(2);
        }

        /** Reads a number into a place of the row of values. */
        private boolean readNumber(int place, int least, int most) {
            nextToken();
            if (kind != NUMBER) {
                return fail(1);
            }
            int number = numberRead();
            if (number < least || number > most) {
                return fail(2);
            }
            value[place] = number;
            return true;
        }

        private boolean readSemicolon() {
            nextToken();
            return kind == SEMICOLON || fail(1);
        }

        private boolean fail(int itsCode) {
            code = itsCode;
            position = start;
            return false;
        }

        private void nextToken() {
            while (at < text.length && (text.byteAt(at) == ' ' || text.byteAt(at) == '\n')) {
                at++;
            }
            start = at;
            if (at >= text.length) {
                kind = END;
            } else if (isLetter(text.byteAt(at))) {
                while (at < text.length && isLetter(text.byteAt(at))) {
                    at++;
                }
                kind = at - start <= 8 ? WORD : NO_TOKEN;
            } else if (isDigit(text.byteAt(at))) {
                while (at < text.length && isDigit(text.byteAt(at))) {
                    at++;
                }
                kind = at - start <= 4 ? NUMBER : NO_TOKEN;
            } else {
                kind = text.byteAt(at) == ';' ? SEMICOLON : NO_TOKEN;
                at++;
            }
        }

        private static boolean isLetter(int one) {
            return one >= 'a' && one <= 'z';
        }

        private static boolean isDigit(int one) {
            return one >= '0' && one <= '9';
        }

        private boolean isWord(String word) {
            if (kind != WORD || at - start != word.length()) {
                return false;
            }
            for (int i = 0; i < word.length(); i++) {
                if (text.byteAt(start + i) != word.charAt(i)) {
                    return false;
                }
            }
            return true;
        }

        private int numberRead() {
            int number = 0;
            for (int i = start; i < at; i++) {
                number = 10 * number + text.byteAt(i) - '0';
            }
            return number;
        }
    }
}
