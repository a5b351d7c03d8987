/** Promises 1 to 6: a new object, the input buffer, load() and its errors. */
public final class InputTest {
    private static final Check check = new Check("InputTest");

    public static void main(String[] args) {
        newObject();
        buffer();
        bytesOfWords();
        goodTexts();
        syntaxErrors();
        rangeErrors();
        limitErrors();
        placeErrors();
        firstErrorCounts();
        bytesBehindTheTextDoNotCount();
        failedLoadChangesNothing();
        goodLoadReplacesAll();
        loadsFollowEachOther();
        check.end();
    }

    private static void newObject() {
        FlatPlan plan = new FlatPlan();
        int[] counts = {16, 1, 2, 0, 0, 0, 0, 0, 0, 0, 0, 0};
        for (int what = 0; what < counts.length; what++) {
            int one = what;
            check.due("count(" + one + ")", counts[one], () -> plan.count(one));
        }
        check.due("form(0, 2)", -1, () -> plan.form(0, 2));
        check.due("lost()", 0, () -> plan.lost());
        check.due("undoCount()", 0, () -> plan.undoCount());
        check.due("errorCode()", 0, () -> plan.errorCode());
        check.due("errorPosition()", -1, () -> plan.errorPosition());
        check.due("describedByte(0)", -1, () -> plan.describedByte(0));
        check.due("digest()", 961, () -> plan.digest());
    }

    private static void buffer() {
        FlatPlan plan = new FlatPlan();
        for (int i = 1; i <= 80; i++) {
            check.due("append " + i, 20 * i, () -> plan.appendInput(0, 0, 0, 0, 0));
        }
        check.due("append to 1620", -1, () -> plan.appendInput(0, 0, 0, 0, 0));
        check.due("truncate(1601)", -1, () -> plan.truncateInput(1601));
        check.due("truncate(-1)", -1, () -> plan.truncateInput(-1));
        check.due("truncate(least)", -1, () -> plan.truncateInput(Integer.MIN_VALUE));
        check.due("truncate(greatest)", -1, () -> plan.truncateInput(Integer.MAX_VALUE));
        check.due("truncate(1600)", 1600, () -> plan.truncateInput(1600));
        check.due("truncate(1581)", 1581, () -> plan.truncateInput(1581));
        check.due("append to 1601", -1, () -> plan.appendInput(0, 0, 0, 0, 0));
        check.due("truncate(1582)", -1, () -> plan.truncateInput(1582));
        check.due("truncate(1580)", 1580, () -> plan.truncateInput(1580));
        check.due("append to 1600", 1600, () -> plan.appendInput(0, 0, 0, 0, 0));
        check.due("truncate(0)", 0, () -> plan.truncateInput(0));
        check.due("truncate(1) of none", -1, () -> plan.truncateInput(1));
        check.due("append to 20", 20, () -> plan.appendInput(0, 0, 0, 0, 0));
    }

    private static void bytesOfWords() {
        FlatPlan plan = new FlatPlan();
        // "standby 1;standby 2;" in five words, the most significant byte of each first
        int[] w = {0x7374616e, 0x64627920, 0x313b7374, 0x616e6462, 0x7920323b};
        check.due("append", 20, () -> plan.appendInput(w[0], w[1], w[2], w[3], w[4]));
        check.due("load()", 2, () -> plan.load());
        check.due("standby(0, 0)", 1, () -> plan.standby(0, 0));
        check.due("standby(1, 0)", 2, () -> plan.standby(1, 0));
        check.due("append after load", 20, () -> plan.appendInput(-1, -1, -1, -1, -1));
        check.due("load() of bytes 255", -3, () -> plan.load());
        check.due("errorCode()", 1, () -> plan.errorCode());
        check.due("errorPosition()", 0, () -> plan.errorPosition());
        check.due("append after a failed load", 20, () -> plan.appendInput(0, 0, 0, 0, 0));
    }

    private static void good(String text, int statements) {
        FlatPlan plan = new FlatPlan();
        Check.append(plan, text);
        check.due("load of " + text, statements, () -> plan.load());
        check.due("errorCode of " + text, 0, () -> plan.errorCode());
        check.due("errorPosition of " + text, -1, () -> plan.errorPosition());
    }

    private static void bad(String text, int code, int position) {
        FlatPlan plan = new FlatPlan();
        Check.append(plan, text);
        check.due("load of " + text, -3, () -> plan.load());
        check.due("errorCode of " + text, code, () -> plan.errorCode());
        check.due("errorPosition of " + text, position, () -> plan.errorPosition());
    }

    private static void goodTexts() {
        good("", 0);
        good(" \n ", 0);
        good("plan 4 4;", 0);
        good("plan1 8;color1;close0 1;", 2);
        good("\nplan\n0001 0016 ; close 1 9999;close 1 1;", 2);
        good("ad1 0 0 0 1 0;ad 2 9 1 2 999 9999;ad 4 5 0 1 50 50;put 0 1;put 2 2;", 5);
        good("story 1 0 0 0;story 8 1 2 9999;standby 4;lay 0 16;", 4);
        good("color 0;color 1;ad 1 0 1 0 5 0;put 0 1;", 4);
        good("plan 4 16;color 7;close 7 5;story 1 0 0 0;lay 0 64;", 4);
        good("standby 1;".repeat(8), 8);
        good("story 1 0 0 0;".repeat(10), 10);
        good("ad 1 0 0 0 1 0;".repeat(40), 40);
    }

    private static void syntaxErrors() {
        bad(";", 1, 0);
        bad("plan", 1, 4);
        bad("plan ", 1, 5);
        bad("plan 1 4", 1, 8);
        bad("plan 1;", 1, 6);
        bad("plan 1 4 1;", 1, 9);
        bad("plan one 4;", 1, 5);
        bad("color 0;plan 1 4;", 1, 8);
        bad("plan 1 4;plan 1 4;", 1, 9);
        bad("1;", 1, 0);
        bad("colour 0;", 1, 0);
        bad("colo 0;", 1, 0);
        bad("colorz 0;", 1, 0);
        bad("xolor 0;", 1, 0);
        bad("planx 1 4;", 1, 0);
        bad("ads 1 0 0 0 1 0;", 1, 0);
        bad("xd 1 0 0 0 1 0;", 1, 0);
        bad("storys 1 0 0 0;", 1, 0);
        bad("standbys 1;", 1, 0);
        bad("abcdefgh 1;", 1, 0);
        bad("closed 0 1;", 1, 0);
        bad("ad 1 0 0 0 1 0;puts 0 1;", 1, 15);
        bad("story 1 0 0 0;lays 0 1;", 1, 14);
        bad("Color 0;", 1, 0);
        bad("color\t0;", 1, 5);
        bad("color 0\r;", 1, 7);
        bad("color -1;", 1, 6);
        bad("color 00000;", 1, 6);
        bad("color 12345;", 1, 6);
        bad("close 0 99999;", 1, 8);
        bad(" abcdefghi 0;", 1, 1);
        bad("color abcdefghi;", 1, 6);
        bad("color 0;;", 1, 8);
        bad("color 0 0;", 1, 8);
        bad("color ;", 1, 6);
        bad("ad 1 0 0 0 1;", 1, 12);
        bad("ad 1 0 0 0 1 0 0;", 1, 15);
        bad("story 1 0 0;", 1, 11);
        bad("standby;", 1, 7);
        bad("standby 1 ", 1, 10);
        bad("close 0;", 1, 7);
        bad("ad 1 0 0 0 1 0;put 0;", 1, 20);
        bad("story 1 0 0 0;lay 0;", 1, 19);
        bad("color 0;\u0080", 1, 8);
        bad("color 0;\u0000", 1, 8);
        bad("color 0;" + "`", 1, 8);
        bad("color 0;" + "{", 1, 8);
        bad("color /;", 1, 6);
        bad("color :;", 1, 6);
    }

    private static void rangeErrors() {
        bad("plan 0 4;", 2, 5);
        bad("plan 5 4;", 2, 5);
        bad("plan 1 5;", 2, 7);
        bad("plan 1 3;", 2, 7);
        bad("plan 1 12;", 2, 7);
        bad("plan 1 17;", 2, 7);
        bad("color 2;", 2, 6);
        bad("plan 4 4;color 8;", 2, 15);
        bad("ad 0 0 0 0 1 0;", 2, 3);
        bad("ad 3 0 0 0 1 0;", 2, 3);
        bad("ad 5 0 0 0 1 0;", 2, 3);
        bad("ad 1 10 0 0 1 0;", 2, 5);
        bad("ad 1 0 2 0 1 0;", 2, 7);
        bad("ad 1 0 0 3 1 0;", 2, 9);
        bad("ad 1 0 0 0 0 0;", 2, 11);
        bad("ad 1 0 0 0 1000 0;", 2, 11);
        bad("story 0 0 0 0;", 2, 6);
        bad("story 9 0 0 0;", 2, 6);
        bad("story 1 2 0 0;", 2, 8);
        bad("story 1 0 3 0;", 2, 10);
        bad("standby 0;", 2, 8);
        bad("standby 3;", 2, 8);
        bad("standby 8;", 2, 8);
        bad("close 2 1;", 2, 6);
        bad("close 0 0;", 2, 8);
        bad("put 0 1;", 2, 4);
        bad("lay 0 1;", 2, 4);
        bad("ad 1 0 0 0 1 0;put 1 1;", 2, 19);
        bad("ad 1 0 0 0 1 0;put 0 0;", 2, 21);
        bad("ad 1 0 0 0 1 0;put 0 17;", 2, 21);
        bad("story 1 0 0 0;lay 1 1;", 2, 18);
        bad("story 1 0 0 0;lay 0 0;", 2, 20);
        bad("story 1 0 0 0;lay 0 17;", 2, 20);
        bad("put 0 1;ad 1 0 0 0 1 0;", 2, 4);
    }

    private static void limitErrors() {
        bad("ad 1 0 0 0 1 0;".repeat(40) + "ad 9", 3, 600);
        bad("story 1 0 0 0;".repeat(10) + " story", 3, 141);
        bad("standby 1;".repeat(8) + "standby x", 3, 80);
    }

    private static void placeErrors() {
        String ad = "ad 4 3 0 0 1 0;";
        bad(ad + "put 0 1;put 0 1;", 4, 29);
        bad(ad + "put 0 1;put 0 20;", 2, 29);
        bad(ad + "put 0 1;put 0 20000;", 1, 29);
        bad(ad + ad + "put 0 1;put 1 1;", 4, 44);
        bad(ad + ad + "put 0 2;put 1 3;", 4, 44);
        bad("ad 1 0 1 0 1 0;put 0 1;color 0;", 4, 21);
        bad("ad 1 0 0 1 1 0;put 0 1;", 4, 21);
        bad("ad 1 0 0 2 1 0;put 0 2;", 4, 21);
        bad("story 2 0 0 0;lay 0 16;", 4, 20);
        bad("story 2 0 0 0;lay 0 1;lay 0 5;", 4, 28);
        bad("story 2 0 0 0;story 1 0 0 0;lay 0 1;lay 1 2;", 4, 42);
        bad("story 1 1 0 0;lay 0 1;", 4, 20);
        bad("story 1 0 1 0;lay 0 1;", 4, 20);
    }

    private static void firstErrorCounts() {
        bad("color 9;bad", 2, 6);
        bad("color 9 9 9", 2, 6);
        bad("standby 1;".repeat(8) + "bad;standby 1;", 1, 80);
        bad("ad 1 0 0 0 1 0;put 0 1;put 0 1;color 9;", 4, 29);
    }

    private static void cut(String text, int length, int position) {
        FlatPlan plan = new FlatPlan();
        Check.append(plan, text);
        plan.truncateInput(length);
        check.due("load of " + length + " bytes of " + text, -3, () -> plan.load());
        check.due("errorCode of it", 1, () -> plan.errorCode());
        check.due("errorPosition of it", position, () -> plan.errorPosition());
    }

    private static void bytesBehindTheTextDoNotCount() {
        cut("color 01;", 7, 7);
        cut("color 0 ;", 7, 7);
        cut("color 0;", 7, 7);
        cut("standbyz 1;", 7, 7);
        cut("colo", 4, 0);
        cut("color", 4, 0);
    }

    private static void failedLoadChangesNothing() {
        FlatPlan plan = check.loaded("plan 2 8;ad 1 1 0 0 7 0;put 0 3;");
        plan.setPrice(0, 9);
        int digest = plan.digest();
        Check.append(plan, "plan 1 4;ad 1 0 0 0 1 0;put 0 1;color 5;");
        check.due("a failed load()", -3, () -> plan.load());
        check.due("digest()", digest, () -> plan.digest());
        check.due("count(0)", 16, () -> plan.count(0));
        check.due("undoCount()", 1, () -> plan.undoCount());
        check.due("ad(0, 4)", 9, () -> plan.ad(0, 4));
        check.due("errorPosition()", 38, () -> plan.errorPosition());
        check.due("buffer", 20, () -> plan.appendInput(0, 0, 0, 0, 0));
    }

    private static void goodLoadReplacesAll() {
        FlatPlan plan = check.loaded("plan 2 8;color 3;close 0 4;ad 1 1 1 2 7 9;story 1 1 1 5;standby 4;"
                + "ad 4 0 0 0 5 9;put 1 1;");
        int[] counts = {16, 2, 4, 2, 1, 1, 0, 1, 0, 0, 0, 1};
        for (int what = 0; what < counts.length; what++) {
            int one = what;
            check.due("count(" + one + ")", counts[one], () -> plan.count(one));
        }
        int[] ad = {1, 1, 1, 2, 7, 9, -1, 1};
        for (int what = 0; what < ad.length; what++) {
            int one = what;
            check.due("ad(0, " + one + ")", ad[one], () -> plan.ad(0, one));
        }
        check.due("pass(4)", 1, () -> plan.pass(4));
        check.due("lost()", 5, () -> plan.lost());
        check.due("load() of nothing", 0, () -> {
            plan.truncateInput(0);
            return plan.load();
        });
        check.due("undoCount()", 0, () -> plan.undoCount());
        check.due("undo()", false, () -> plan.undo());
        check.due("lost() after load", 0, () -> plan.lost());
        check.due("count(0) without plan", 16, () -> plan.count(0));
        for (int what = 3; what <= 11; what++) {
            int one = what;
            check.due("count(" + one + ") after load", 0, () -> plan.count(one));
        }
        check.due("page(1, 4) after load", 0, () -> plan.page(1, 4));
        check.due("page(1, 6) after load", 0, () -> plan.page(1, 6));
        check.due("adOn(1, 0) after load", -1, () -> plan.adOn(1, 0));
        check.due("fill() after load", 0.0, () -> plan.fill());
        check.due("form(0, 2) after load", -1, () -> plan.form(0, 2));
        check.index("form(2, 0) after load", () -> plan.form(2, 0));
    }

    private static void loadsFollowEachOther() {
        FlatPlan plan = new FlatPlan();
        String text = "color 0;close 1 7;ad 1 3 1 2 5 9;story 2 0 1 5;standby 2;put 0 1;lay 0 2;";
        for (int i = 0; i < 3; i++) {
            Check.append(plan, text);
            check.due("load() again", 7, () -> plan.load());
            check.due("errorCode()", 0, () -> plan.errorCode());
            check.due("errorPosition()", -1, () -> plan.errorPosition());
            check.due("ad(0, 6)", 1, () -> plan.ad(0, 6));
            Check.append(plan, text + "put 0 1;");
            check.due("load() with an error", -3, () -> plan.load());
            check.due("errorCode()", 4, () -> plan.errorCode());
            check.due("errorPosition()", 79, () -> plan.errorPosition());
        }
        Check.append(plan, "");
        check.due("load() of nothing", 0, () -> plan.load());
        check.due("count(7)", 0, () -> plan.count(7));
        check.due("count(8)", 0, () -> plan.count(8));
        check.due("page(1, 4)", 0, () -> plan.page(1, 4));
        check.due("addAd", 0, () -> plan.addAd(1, 2, 3, 4));
        int[] due = {1, 2, 0, 0, 3, 4, -1, 1};
        for (int what = 0; what < due.length; what++) {
            int one = what;
            check.due("ad(0, " + one + ")", due[one], () -> plan.ad(0, one));
        }
        check.due("reason(0, 1)", 0, () -> plan.reason(0, 1));
        check.due("form(0, 0)", 0, () -> plan.form(0, 0));
        check.due("form(1, 2)", -1, () -> plan.form(1, 2));
    }
}
