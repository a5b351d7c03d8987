import java.util.ArrayDeque;
import java.util.ArrayList;
import java.util.Arrays;
import java.util.Comparator;
import java.util.Deque;
import java.util.List;
import java.util.TreeMap;
import java.util.TreeSet;
import java.util.regex.Matcher;
import java.util.regex.Pattern;

/**
 * The document told a second time, as slowly and literally as it can be: no tables, a page asks
 * all items, searches try everything. ModelTest holds the class against it.
 */
final class Model {
    /** An ad, a story (whose size is its length) or a standby; it uses what its kind has. */
    static final class Item {
        int size, group, color, side, price, ready, page;

        Item copy() {
            Item other = new Item();
            other.size = size;
            other.group = group;
            other.color = color;
            other.side = side;
            other.price = price;
            other.ready = ready;
            other.page = page;
            return other;
        }
    }

    static final class World {
        int g = 1, s = 16, time = 0, lost = 0;
        List<Item> ads = new ArrayList<>(), stories = new ArrayList<>(), standbys = new ArrayList<>();
        boolean[] color = new boolean[8], printed = new boolean[8];
        int[] closing = new int[8];

        World copy() {
            World w = new World();
            w.g = g;
            w.s = s;
            w.time = time;
            w.lost = lost;
            ads.forEach(i -> w.ads.add(i.copy()));
            stories.forEach(i -> w.stories.add(i.copy()));
            standbys.forEach(i -> w.standbys.add(i.copy()));
            w.color = color.clone();
            w.printed = printed.clone();
            w.closing = closing.clone();
            return w;
        }

        int n() {
            return g * s;
        }

        int formOf(int page) {
            int signature = (page - 1) / s;
            int k = (page - 1) % s;
            return 2 * signature + (k % 4 == 0 || k % 4 == 3 ? 0 : 1);
        }

        boolean exists(int page) {
            return page >= 1 && page <= n();
        }

        boolean late(Item item) {
            return time < item.ready;
        }

        List<Integer> pagesOf(Item story) {
            List<Integer> pages = new ArrayList<>();
            for (int i = 0; story.page != 0 && i < story.size; i++) {
                pages.add(story.page + i);
            }
            return pages;
        }

        boolean storyOn(Item story, int form) {
            return pagesOf(story).stream().anyMatch(p -> formOf(p) == form);
        }

        boolean onPrinted(Item story) {
            return pagesOf(story).stream().anyMatch(p -> printed[formOf(p)]);
        }

        boolean onOpen(Item story) {
            return pagesOf(story).stream().anyMatch(p -> !printed[formOf(p)]);
        }

        int left(int page, Item without) {
            int left = 4;
            for (Item ad : ads) {
                left -= ad != without && ad.page == page ? ad.size : 0;
            }
            for (Item standby : standbys) {
                left -= standby != without && standby.page == page ? standby.size : 0;
            }
            for (Item story : stories) {
                left -= story != without && pagesOf(story).contains(page) ? 4 : 0;
            }
            return left;
        }

        boolean wrongSide(Item item, int page) {
            boolean right = page % 2 == 1;
            return item.side == 1 && right || item.side == 2 && !right;
        }

        int reason(Item ad, int page) {
            if (!exists(page)) return 1;
            if (printed[formOf(page)]) return 2;
            if (left(page, ad) < ad.size) return 3;
            if (ad.color == 1 && !color[formOf(page)]) return 4;
            if (wrongSide(ad, page)) return 5;
            for (Item other : ads) {
                if (other != ad && ad.group != 0 && other.group == ad.group
                        && other.page != 0 && other.page / 2 == page / 2) return 6;
            }
            return 0;
        }

        int storyReason(Item story, int page) {
            TreeSet<Integer> why = new TreeSet<>();
            for (long p = page; p < (long) page + story.size; p++) {
                if (p < 1 || p > n()) return 1;
                int one = (int) p;
                if (printed[formOf(one)]) why.add(2);
                if (left(one, story) < 4) why.add(3);
                if (story.color == 1 && !color[formOf(one)]) why.add(4);
            }
            if (wrongSide(story, page)) why.add(5);
            return why.isEmpty() ? 0 : why.first();
        }

        int swapped(int page, int one, int other) {
            return page == one ? other : page == other ? one : page;
        }

        void swap(int one, int other) {
            ads.forEach(i -> i.page = swapped(i.page, one, other));
            standbys.forEach(i -> i.page = swapped(i.page, one, other));
        }

        int exchangeReason(int one, int other) {
            if (printed[formOf(one)] || printed[formOf(other)]) return 2;
            for (Item story : stories) {
                if (pagesOf(story).contains(one) || pagesOf(story).contains(other)) return 3;
            }
            TreeSet<Integer> why = new TreeSet<>();
            World then = copy();
            then.swap(one, other);
            for (Item ad : then.ads) {
                if (ad.page == one || ad.page == other) {
                    if (ad.color == 1 && !color[formOf(ad.page)]) why.add(4);
                    if (wrongSide(ad, ad.page)) why.add(5);
                    for (Item rival : then.ads) {
                        if (rival != ad && ad.group != 0 && rival.group == ad.group && rival.page != 0
                                && rival.page / 2 == ad.page / 2) why.add(6);
                    }
                }
            }
            return why.isEmpty() ? 0 : why.first();
        }

        boolean colorItemOn(int form) {
            return ads.stream().anyMatch(a -> a.page != 0 && a.color == 1 && formOf(a.page) == form)
                    || stories.stream().anyMatch(t -> t.color == 1 && storyOn(t, form));
        }

        int colorForms() {
            int found = 0;
            for (int f = 0; f < 2 * g; f++) {
                found += colorItemOn(f) ? 1 : 0;
            }
            return found;
        }

        int lateOn(int form) {
            return (int) (ads.stream().filter(a -> a.page != 0 && formOf(a.page) == form && late(a)).count()
                    + stories.stream().filter(t -> late(t) && storyOn(t, form)).count());
        }

        int leftOn(int form) {
            int sum = 0;
            for (int p = 1; p <= n(); p++) {
                sum += formOf(p) == form ? left(p, null) : 0;
            }
            return sum;
        }

        void close(int form) {
            for (Item story : stories) {
                if (late(story) && storyOn(story, form)) story.page = 0;
            }
            List<Item> lateAds = new ArrayList<>();
            for (Item ad : ads) {
                if (ad.page != 0 && formOf(ad.page) == form && late(ad)) lateAds.add(ad);
            }
            lateAds.sort(Comparator.comparingInt(a -> a.page));
            for (Item ad : lateAds) {
                int page = ad.page;
                ad.page = 0;
                lost += ad.price;
                standbys.stream().filter(b -> b.page == 0 && b.size == ad.size).findFirst()
                        .ifPresent(b -> b.page = page);
            }
            printed[form] = true;
        }

        int hour() {
            time++;
            List<Integer> due = new ArrayList<>();
            for (int f = 0; f < 2 * g; f++) {
                if (!printed[f] && closing[f] != 0 && closing[f] <= time) due.add(f);
            }
            due.sort(Comparator.comparingInt(f -> closing[f]));
            due.forEach(this::close);
            return due.size();
        }

        boolean tidy() {
            for (int p = 1; p <= n(); p++) {
                if (left(p, null) < 0) return false;
            }
            for (Item a : ads) {
                for (Item b : ads) {
                    if (a != b && a.group != 0 && a.group == b.group && a.page != 0 && b.page != 0
                            && a.page / 2 == b.page / 2) return false;
                }
            }
            return true;
        }
    }

    World w = new World();
    Deque<World> before = new ArrayDeque<>();
    List<Integer> buffer = new ArrayList<>();
    int errorCode = 0;
    int errorPosition = -1;
    String description = "";

    private void change() {
        before.addLast(w.copy());
        if (before.size() > 20) {
            before.removeFirst();
        }
    }

    private static void need(boolean holds) {
        if (!holds) {
            throw new IndexOutOfBoundsException();
        }
    }

    private static void want(boolean holds) {
        if (!holds) {
            throw new IllegalArgumentException();
        }
    }

    private static Item at(List<Item> items, int number) {
        need(number >= 0 && number < items.size());
        return items.get(number);
    }

    private static boolean in(int number, int least, int most) {
        return number >= least && number <= most;
    }

    int appendInput(int... words) {
        if (buffer.size() > 1580) return -1;
        for (int word : words) {
            for (int shift = 24; shift >= 0; shift -= 8) {
                buffer.add(word >>> shift & 255);
            }
        }
        return buffer.size();
    }

    int truncateInput(int length) {
        if (!in(length, 0, buffer.size())) return -1;
        buffer = new ArrayList<>(buffer.subList(0, length));
        return length;
    }

    /** An error of a text, left by the reading at once. */
    private static final class TextError extends RuntimeException {
        final int code;

        TextError(int code) {
            this.code = code;
        }
    }

    private static final Pattern TOKEN = Pattern.compile("[ \n]*([a-z]+|[0-9]+|[^ \n])?", Pattern.DOTALL);
    private String text;
    private Matcher matcher;
    private String token;
    private int tokenAt;

    private void next() {
        matcher.find();
        token = matcher.group(1);
        tokenAt = token == null ? text.length() : matcher.start(1);
        matcher.region(matcher.end(), text.length());
    }

    private int number(int least, int most) {
        next();
        if (token == null || !token.matches("[0-9]{1,4}")) throw new TextError(1);
        int value = Integer.parseInt(token);
        if (!in(value, least, most)) throw new TextError(2);
        return value;
    }

    private int numberOf(Integer... allowed) {
        int value = number(0, 9999);
        if (!Arrays.asList(allowed).contains(value)) throw new TextError(2);
        return value;
    }

    private void semicolon() {
        next();
        if (!";".equals(token)) throw new TextError(1);
    }

    int load() {
        StringBuilder all = new StringBuilder();
        buffer.forEach(b -> all.append((char) (int) b));
        buffer = new ArrayList<>();
        text = all.toString();
        matcher = TOKEN.matcher(text);
        errorCode = 0;
        errorPosition = -1;
        World read = new World();
        int statements = 0;
        try {
            next();
            if ("plan".equals(token)) {
                read.g = number(1, 4);
                read.s = numberOf(4, 8, 16);
                semicolon();
                next();
            }
            while (token != null) {
                statement(read);
                statements++;
                next();
            }
        } catch (TextError e) {
            errorCode = e.code;
            errorPosition = tokenAt;
            return -3;
        }
        w = read;
        before.clear();
        return statements;
    }

    private void statement(World read) {
        Item item = new Item();
        switch (token) {
            case "color": read.color[number(0, 2 * read.g - 1)] = true; break;
            case "ad":
                if (read.ads.size() == 40) throw new TextError(3);
                item.size = numberOf(1, 2, 4);
                item.group = number(0, 9);
                item.color = number(0, 1);
                item.side = number(0, 2);
                item.price = number(1, 999);
                item.ready = number(0, 9999);
                read.ads.add(item);
                break;
            case "story":
                if (read.stories.size() == 10) throw new TextError(3);
                item.size = number(1, 8);
                item.color = number(0, 1);
                item.side = number(0, 2);
                item.ready = number(0, 9999);
                read.stories.add(item);
                break;
            case "standby":
                if (read.standbys.size() == 8) throw new TextError(3);
                item.size = numberOf(1, 2, 4);
                read.standbys.add(item);
                break;
            case "close":
                int form = number(0, 2 * read.g - 1);
                read.closing[form] = number(1, 9999);
                break;
            case "put":
                Item ad = read.ads.get(number(0, read.ads.size() - 1));
                int page = number(1, read.n());
                if (ad.page != 0 || read.reason(ad, page) != 0) throw new TextError(4);
                ad.page = page;
                break;
            case "lay":
                Item story = read.stories.get(number(0, read.stories.size() - 1));
                int first = number(1, read.n());
                if (story.page != 0 || read.storyReason(story, first) != 0) throw new TextError(4);
                story.page = first;
                break;
            default: throw new TextError(1);
        }
        semicolon();
    }

    private static int placed(List<Item> items) {
        return (int) items.stream().filter(i -> i.page != 0).count();
    }

    int count(int what) {
        int printed = 0;
        int color = 0;
        for (int f = 0; f < 2 * w.g; f++) {
            printed += w.printed[f] ? 1 : 0;
            color += w.color[f] ? 1 : 0;
        }
        int[] all = {w.n(), w.g, 2 * w.g, w.ads.size(), w.stories.size(), w.standbys.size(), w.time,
            placed(w.ads), placed(w.stories), placed(w.standbys), printed, color};
        return in(what, 0, 11) ? all[what] : -1;
    }

    int addAd(int size, int group, int price, int ready) {
        want(size == 1 || size == 2 || size == 4);
        want(in(group, 0, 9) && in(price, 1, 999) && in(ready, 0, 9999));
        if (w.ads.size() == 40) return -2;
        change();
        Item ad = new Item();
        ad.size = size;
        ad.group = group;
        ad.price = price;
        ad.ready = ready;
        w.ads.add(ad);
        return w.ads.size() - 1;
    }

    boolean setAd(int number, boolean color, int side) {
        at(w.ads, number);
        want(in(side, 0, 2));
        if (at(w.ads, number).page != 0) return false;
        change();
        at(w.ads, number).color = color ? 1 : 0;
        at(w.ads, number).side = side;
        return true;
    }

    int setPrice(int number, int price) {
        at(w.ads, number);
        want(in(price, 1, 999));
        change();
        int was = at(w.ads, number).price;
        at(w.ads, number).price = price;
        return was;
    }

    private static int pageOrNone(Item item) {
        return item.page == 0 ? -1 : item.page;
    }

    int ad(int number, int what) {
        Item a = at(w.ads, number);
        int[] all = {a.size, a.group, a.color, a.side, a.price, a.ready, pageOrNone(a), w.late(a) ? 1 : 0};
        return in(what, 0, 7) ? all[what] : -1;
    }

    int story(int number, int what) {
        Item t = at(w.stories, number);
        int[] all = {t.size, t.color, t.side, t.ready, pageOrNone(t), w.late(t) ? 1 : 0};
        return in(what, 0, 5) ? all[what] : -1;
    }

    int standby(int number, int what) {
        Item b = at(w.standbys, number);
        return what == 0 ? b.size : what == 1 ? pageOrNone(b) : -1;
    }

    int page(int page, int what) {
        need(w.exists(page));
        int story = -1;
        for (int i = 0; i < w.stories.size(); i++) {
            if (w.pagesOf(w.stories.get(i)).contains(page)) story = i;
        }
        int[] all = {page / 2, (page - 1) / w.s, w.formOf(page), w.left(page, null),
            (int) w.ads.stream().filter(a -> a.page == page).count(), story,
            (int) w.standbys.stream().filter(b -> b.page == page).count()};
        return in(what, 0, 6) ? all[what] : -1;
    }

    int adOn(int page, int index) {
        need(w.exists(page));
        List<Integer> on = new ArrayList<>();
        for (int i = 0; i < w.ads.size(); i++) {
            if (w.ads.get(i).page == page) on.add(i);
        }
        return in(index, 0, on.size() - 1) ? on.get(index) : -1;
    }

    private void needForm(int form) {
        need(in(form, 0, 2 * w.g - 1));
    }

    int form(int form, int what) {
        needForm(form);
        int[] all = {w.color[form] ? 1 : 0, w.printed[form] ? 1 : 0,
            w.closing[form] == 0 ? -1 : w.closing[form],
            w.s / 2, w.leftOn(form),
            (int) w.ads.stream().filter(a -> a.page != 0 && w.formOf(a.page) == form).count(),
            w.lateOn(form), w.colorItemOn(form) ? 1 : 0};
        return in(what, 0, 7) ? all[what] : -1;
    }

    int pageOf(int form, int index) {
        needForm(form);
        List<Integer> pages = new ArrayList<>();
        for (int p = 1; p <= w.n(); p++) {
            if (w.formOf(p) == form) pages.add(p);
        }
        return in(index, 0, pages.size() - 1) ? pages.get(index) : -1;
    }

    int reason(int ad, int page) {
        return w.reason(at(w.ads, ad), page);
    }

    int storyReason(int story, int page) {
        return w.storyReason(at(w.stories, story), page);
    }

    int put(int number, int page) {
        Item ad = at(w.ads, number);
        TreeSet<Integer> why = new TreeSet<>();
        why.add(w.reason(ad, page));
        if (ad.page != 0 && w.printed[w.formOf(ad.page)]) why.add(2);
        why.remove(0);
        if (!why.isEmpty()) return why.first();
        change();
        ad.page = page;
        return 0;
    }

    int lay(int number, int page) {
        Item story = at(w.stories, number);
        TreeSet<Integer> why = new TreeSet<>();
        why.add(w.storyReason(story, page));
        if (w.onPrinted(story)) why.add(2);
        why.remove(0);
        if (!why.isEmpty()) return why.first();
        change();
        story.page = page;
        return 0;
    }

    boolean take(int number) {
        Item ad = at(w.ads, number);
        if (ad.page == 0 || w.printed[w.formOf(ad.page)]) return false;
        change();
        ad.page = 0;
        return true;
    }

    boolean takeStory(int number) {
        Item story = at(w.stories, number);
        if (story.page == 0 || w.onPrinted(story)) return false;
        change();
        story.page = 0;
        return true;
    }

    int use(int number, int page) {
        Item b = at(w.standbys, number);
        if (!w.exists(page)) return 1;
        if (w.printed[w.formOf(page)] || b.page != 0 && w.printed[w.formOf(b.page)]) return 2;
        if (w.left(page, b) < b.size) return 3;
        change();
        b.page = page;
        return 0;
    }

    int clear(int page) {
        need(w.exists(page));
        List<Item> all = new ArrayList<>(w.ads);
        all.addAll(w.standbys);
        all.removeIf(i -> i.page != page);
        if (w.printed[w.formOf(page)] || all.isEmpty()) return -4;
        change();
        all.forEach(i -> i.page = 0);
        return all.size();
    }

    int exchange(int one, int other) {
        need(w.exists(one));
        need(w.exists(other));
        int why = w.exchangeReason(one, other);
        if (why != 0) return why;
        change();
        w.swap(one, other);
        return 0;
    }

    boolean setColor(int form, boolean color) {
        needForm(form);
        if (w.printed[form] || !color && w.colorItemOn(form)) return false;
        change();
        w.color[form] = color;
        return true;
    }

    int setClosing(int form, int time) {
        needForm(form);
        want(in(time, 1, 9999));
        if (w.printed[form]) return -4;
        change();
        int was = w.closing[form];
        w.closing[form] = time;
        if (time <= w.time) w.close(form);
        return was == 0 ? -1 : was;
    }

    int pass(int hours) {
        want(in(hours, 1, 500));
        if (w.time + hours > 9999) return -2;
        change();
        int closed = 0;
        for (int i = 0; i < hours; i++) {
            closed += w.hour();
        }
        return closed;
    }

    int print(int form) {
        needForm(form);
        if (w.printed[form] || w.lateOn(form) > 0) return -4;
        change();
        w.printed[form] = true;
        return w.leftOn(form);
    }

    int nextClosing() {
        TreeMap<Integer, Integer> forms = new TreeMap<>();
        for (int f = 2 * w.g - 1; f >= 0; f--) {
            if (!w.printed[f] && w.closing[f] != 0) forms.put(w.closing[f], f);
        }
        return forms.isEmpty() ? -1 : forms.firstEntry().getValue();
    }

    int placeAds() {
        change();
        List<Item> free = new ArrayList<>(w.ads);
        free.removeIf(a -> a.page != 0);
        free.sort(Comparator.comparingInt((Item a) -> -a.price).thenComparingInt(a -> -a.size));
        int found = 0;
        for (Item ad : free) {
            for (int p = 1; p <= w.n() && ad.page == 0; p++) {
                if (w.reason(ad, p) == 0) {
                    ad.page = p;
                    found++;
                }
            }
        }
        return found;
    }

    int layStories() {
        change();
        List<Item> free = new ArrayList<>(w.stories);
        free.removeIf(t -> t.page != 0);
        free.sort(Comparator.comparingInt(t -> -t.size));
        int found = 0;
        for (Item story : free) {
            for (int p = 1; p <= w.n() && story.page == 0; p++) {
                if (w.storyReason(story, p) == 0) {
                    story.page = p;
                    found++;
                }
            }
        }
        return found;
    }

    int choices(int number) {
        Item ad = at(w.ads, number);
        int found = 0;
        for (int p = 1; p <= w.n(); p++) {
            found += w.reason(ad, p) == 0 ? 1 : 0;
        }
        return found;
    }

    int firstPage(int number, int from) {
        Item ad = at(w.ads, number);
        for (int p = 1; p <= w.n(); p++) {
            if (p >= from && w.reason(ad, p) == 0) return p;
        }
        return -1;
    }

    int tightest() {
        int best = -1;
        for (int i = w.ads.size() - 1; i >= 0; i--) {
            if (w.ads.get(i).page == 0 && (best < 0 || choices(i) <= choices(best))) best = i;
        }
        return best;
    }

    int eviction(int number, int page) {
        Item ad = at(w.ads, number);
        need(w.exists(page));
        List<Item> others = new ArrayList<>();
        for (Item other : w.ads) {
            if (other != ad && other.page != 0 && other.page / 2 == page / 2
                    && !w.printed[w.formOf(other.page)]) others.add(other);
        }
        int best = -1;
        int[] pages = others.stream().mapToInt(o -> o.page).toArray();
        for (int set = 0; set < 1 << others.size(); set++) {
            int sum = 0;
            for (int i = 0; i < pages.length; i++) {
                if ((set >> i & 1) == 1) {
                    sum += others.get(i).price;
                    others.get(i).page = 0;
                }
            }
            if (w.reason(ad, page) == 0 && (best < 0 || sum < best)) best = sum;
            for (int i = 0; i < pages.length; i++) {
                others.get(i).page = pages[i];
            }
        }
        return best;
    }

    int cheapestPage(int number) {
        at(w.ads, number);
        int best = -1;
        for (int p = w.n(); p >= 1; p--) {
            int sum = eviction(number, p);
            if (sum >= 0 && (best < 0 || sum <= eviction(number, best))) best = p;
        }
        return best;
    }

    /** By König's theorem: the least number of ads and kinds of pages that meet every pair. */
    int matching() {
        int[] pages = new int[4];
        for (int p = 1; p <= w.n(); p++) {
            int form = w.formOf(p);
            if (!w.printed[form] && w.left(p, null) == 4) {
                pages[p % 2 + (w.color[form] ? 2 : 0)]++;
            }
        }
        int least = Integer.MAX_VALUE;
        for (int cover = 0; cover < 16; cover++) {
            int size = 0;
            for (int kind = 0; kind < 4; kind++) {
                size += (cover >> kind & 1) == 1 ? pages[kind] : 0;
            }
            for (Item ad : w.ads) {
                boolean met = true;
                for (int kind = 0; kind < 4; kind++) {
                    boolean fits = (ad.color == 0 || kind >= 2) && !w.wrongSide(ad, kind);
                    met &= !fits || (cover >> kind & 1) == 1;
                }
                size += ad.size == 4 && ad.page == 0 && !met ? 1 : 0;
            }
            least = Math.min(least, size);
        }
        return least;
    }

    int bestColor(int forms) {
        want(in(forms, 1, 8));
        int best = 0;
        int most = -1;
        for (int set = 255; set >= 0; set--) {
            boolean good = Integer.bitCount(set) == forms;
            int sum = 0;
            for (int f = 0; f < 8; f++) {
                if ((set >> f & 1) == 1) {
                    good &= f < 2 * w.g && !w.printed[f] && !w.color[f];
                    sum += good ? w.leftOn(f) : 0;
                }
            }
            if (good && sum >= most) {
                most = sum;
                best = set;
            }
        }
        return best;
    }

    int nearRivals() {
        int found = 0;
        for (Item a : w.ads) {
            for (Item b : w.ads) {
                if (a.page != 0 && b.page != 0 && a.group != 0 && a.group == b.group
                        && a.page / 2 + 1 == b.page / 2) found++;
            }
        }
        return found;
    }

    int groupOn(int group, int spread) {
        want(in(group, 0, 9) && in(spread, 0, w.n() / 2));
        return (int) w.ads.stream().filter(a -> a.page != 0 && a.group == group && a.page / 2 == spread).count();
    }

    int spreadsOf(int group) {
        want(in(group, 0, 9));
        return (int) w.ads.stream().filter(a -> a.page != 0 && a.group == group).map(a -> a.page / 2)
                .distinct().count();
    }

    int revenue() {
        return w.ads.stream().filter(a -> a.page != 0).mapToInt(a -> a.price).sum();
    }

    int revenueOf(int form) {
        needForm(form);
        return w.ads.stream().filter(a -> a.page != 0 && w.formOf(a.page) == form).mapToInt(a -> a.price).sum();
    }

    int revenueOfGroup(int group) {
        want(in(group, 0, 9));
        return w.ads.stream().filter(a -> a.page != 0 && a.group == group).mapToInt(a -> a.price).sum();
    }

    int lost() {
        return w.lost;
    }

    int endangered() {
        World then = w.copy();
        for (int i = 0; i < 10000; i++) {
            then.hour();
        }
        return then.lost - w.lost;
    }

    private static String key(int ready, int item) {
        return String.format("%05d %03d", ready, item);
    }

    int lateItem(int k) {
        TreeMap<String, Integer> items = new TreeMap<>();
        for (int i = 0; i < w.ads.size(); i++) {
            Item a = w.ads.get(i);
            if (a.page != 0 && w.late(a) && !w.printed[w.formOf(a.page)]) items.put(key(a.ready, i), i);
        }
        for (int i = 0; i < w.stories.size(); i++) {
            Item t = w.stories.get(i);
            if (w.late(t) && w.onOpen(t)) items.put(key(t.ready, 100 + i), 100 + i);
        }
        List<Integer> all = new ArrayList<>(items.values());
        return in(k, 0, all.size() - 1) ? all.get(k) : -1;
    }

    int lastReady() {
        TreeMap<String, Integer> items = new TreeMap<>();
        for (int i = 0; i < w.ads.size(); i++) {
            Item a = w.ads.get(i);
            if (a.page != 0 && !w.printed[w.formOf(a.page)]) items.put(key(10000 - a.ready, i), i);
        }
        for (int i = 0; i < w.stories.size(); i++) {
            Item t = w.stories.get(i);
            if (w.onOpen(t)) items.put(key(10000 - t.ready, 100 + i), 100 + i);
        }
        return items.isEmpty() ? -1 : items.firstEntry().getValue();
    }

    int betterExchange() {
        int least = w.colorForms();
        int best = -1;
        for (int one = 1; one <= w.n(); one++) {
            for (int other = one + 1; other <= w.n(); other++) {
                w.swap(one, other);
                int forms = w.colorForms();
                w.swap(one, other);
                if (forms < least && w.exchangeReason(one, other) == 0) {
                    least = forms;
                    best = 100 * one + other;
                }
            }
        }
        return best;
    }

    int emptyRun(int length) {
        want(in(length, 1, 64));
        for (int p = 1; p + length - 1 <= w.n(); p++) {
            boolean empty = true;
            for (int i = 0; i < length; i++) {
                empty &= w.left(p + i, null) == 4;
            }
            if (empty) return p;
        }
        return -1;
    }

    int emptiest(int k) {
        List<Integer> pages = new ArrayList<>();
        for (int p = 1; p <= w.n(); p++) {
            pages.add(p);
        }
        pages.sort(Comparator.comparingInt(p -> -w.left(p, null)));
        return in(k, 0, pages.size() - 1) ? pages.get(k) : -1;
    }

    double fill() {
        int taken = 0;
        for (int p = 1; p <= w.n(); p++) {
            taken += 4 - w.left(p, null);
        }
        return taken / (4.0 * w.n());
    }

    double quarterPrice() {
        int sizes = w.ads.stream().filter(a -> a.page != 0).mapToInt(a -> a.size).sum();
        if (sizes == 0) throw new ArithmeticException();
        return revenue() / (double) sizes;
    }

    int describe(int page) {
        need(w.exists(page));
        List<String> parts = new ArrayList<>();
        if (page(page, 5) >= 0) parts.add("s" + page(page, 5));
        for (int i = 0; adOn(page, i) >= 0; i++) {
            parts.add("a" + adOn(page, i));
        }
        for (int i = 0; i < w.standbys.size(); i++) {
            if (w.standbys.get(i).page == page) parts.add("b" + i);
        }
        if (page(page, 3) > 0) parts.add("+" + page(page, 3));
        description = String.join(" ", parts);
        return description.length();
    }

    int describedByte(int index) {
        return in(index, 0, description.length() - 1) ? description.charAt(index) : -1;
    }

    int digest() {
        int digest = 1;
        for (List<Item> items : List.of(w.ads, w.stories, w.standbys)) {
            for (Item item : items) {
                digest = 31 * digest + item.page;
            }
        }
        for (int f = 0; f < 2 * w.g; f++) {
            digest = 31 * digest + (w.printed[f] ? 1 : 0);
        }
        return digest;
    }

    boolean undo() {
        if (before.isEmpty()) return false;
        w = before.removeLast();
        return true;
    }

    int undoCount() {
        return before.size();
    }
}
