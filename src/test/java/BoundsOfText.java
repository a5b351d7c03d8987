import java.util.List;

/** Boundary cases of INPUT, ERRORS and promises 2 to 6. */
final class BoundsOfText extends Bounds {
    private static final String AD = "ad 1 0 0 0 1 0;";
    private static final String STORY = "story 1 0 0 0;";
    /** Each statement with what must stand before it, its tokens apart. */
    private static final String[][] STATEMENTS = {{"", "plan 1 4 ;"}, {"", "color 0 ;"}, {"", "ad 1 0 0 0 1 0 ;"},
        {"", "story 1 0 0 0 ;"}, {"", "standby 1 ;"}, {"", "close 0 1 ;"}, {AD, "put 0 1 ;"}, {STORY, "lay 0 1 ;"}};

    BoundsOfText(Check check) {
        super(check);
    }

    @Override
    void run() {
        fullBuffer();
        bufferIsEmptied();
        words();
        numbers();
        symbol();
        separators();
        wholeText();
        colorStatement();
        adStatement();
        storyStatement();
        standbyStatement();
        closeStatement();
        putStatement();
        layStatement();
        loadReplacesAll();
        nothingStays();
        firstError();
        positions();
        lowestCode();
        syntax();
        range();
        limit();
        place();
        appendInput();
        appendedBytes();
        truncateInput();
        load();
        errors();
    }

    private static int statementsOf(String text) {
        int found = text.startsWith("plan") ? -1 : 0;
        for (int i = 0; i < text.length(); i++) {
            found += text.charAt(i) == ';' ? 1 : 0;
        }
        return found;
    }

    private void good(String text) {
        good(text, statementsOf(text));
    }

    /** The tokens with another one at a place, one space between two of them. */
    private static String with(String[] tokens, int place, String other) {
        String[] changed = tokens.clone();
        changed[place] = other;
        return String.join(" ", changed);
    }

    private static int positionOf(String[] tokens, int place) {
        int at = 0;
        for (int i = 0; i < place; i++) {
            at += tokens[i].length() + 1;
        }
        return at;
    }

    private static boolean isNumber(String token) {
        return Character.isDigit(token.charAt(0));
    }

    // ---- INPUT

    private void fullBuffer() {
        told("INPUT", "Text is collected in an input buffer of at most 1600 bytes");
        good("color 0;".repeat(200), 200);
        bad("color 0;".repeat(199) + "color 1 ", 1, 1600);
        bad("color 0;".repeat(199) + "color 0x", 1, 1599);
        bad(" ".repeat(1599) + "x", 1, 1599);
        good(" ".repeat(1600), 0);
    }

    private void bufferIsEmptied() {
        told("INPUT", "load() reads it and empties it, also on an error.");
        for (String text : List.of("color 0;", "bad", "color 9;", "")) {
            FlatPlan plan = new FlatPlan();
            Check.append(plan, text);
            plan.load();
            due("truncateInput(1) after load of [" + text + "]", -1, () -> plan.truncateInput(1));
            due("truncateInput(0) after load of [" + text + "]", 0, () -> plan.truncateInput(0));
            due("load() again after [" + text + "]", 0, () -> plan.load());
            due("errorCode() then", 0, () -> plan.errorCode());
            due("appendInput then", 20, () -> plan.appendInput(0, 0, 0, 0, 0));
        }
    }

    private void words() {
        told("INPUT", "words (longest runs of the letters a to z, at most 8 letters)");
        for (String[] statement : STATEMENTS) {
            String before = statement[0];
            int at = before.length();
            String[] tokens = statement[1].split(" ");
            String word = tokens[0];
            good(before + statement[1]);
            for (String wrong : List.of(word + "a", word + "z", "a" + word, "z" + word, word + word, word.substring(1),
                    word.substring(0, word.length() - 1), word.toUpperCase(), word + "abcdefgh")) {
                bad(before + with(tokens, 0, wrong), 1, at);
            }
            for (int i = 0; i < word.length(); i++) {
                bad(before + with(tokens, 0, word.substring(0, i) + "x" + word.substring(i + 1)), 1, at);
            }
            // A sign beside the letters ends the word, so that the next token is the wrong one.
            for (String sign : List.of("`", "{", "A", "Z", "@", "[", "\u00e1")) {
                bad(before + with(tokens, 0, word + sign), 1, at + word.length());
            }
        }
        bad("abcdefgh 0;", 1, 0);
        bad("abcdefghi 0;", 1, 0);
        bad("color abcdefgh;", 1, 6);
        bad("color abcdefghi;", 1, 6);
    }

    private void numbers() {
        told("INPUT", "numbers (longest runs of digits, at most 4 digits)");
        for (String[] statement : STATEMENTS) {
            String before = statement[0];
            String[] tokens = statement[1].split(" ");
            for (int i = 1; i < tokens.length - 1; i++) {
                int at = before.length() + positionOf(tokens, i);
                good(before + with(tokens, i, "000".substring(tokens[i].length() - 1) + tokens[i]));
                bad(before + with(tokens, i, "0000".substring(tokens[i].length() - 1) + tokens[i]), 1, at);
                bad(before + with(tokens, i, tokens[i] + "/"), 1, at + tokens[i].length());
                bad(before + with(tokens, i, tokens[i] + ":"), 1, at + tokens[i].length());
                bad(before + with(tokens, i, "-" + tokens[i]), 1, at);
                bad(before + with(tokens, i, "4294967296"), 1, at);
            }
        }
        good("close 0 9999;", 1);
        bad("close 0 10000;", 1, 8);
        bad("color 19;", 2, 6);
        bad("color 90;", 2, 6);
    }

    private void symbol() {
        told("INPUT", "and the symbol ;.");
        good("color 0;color 1;", 2);
        for (String sign : List.of(":", "<", ",", ".", "\u00bb")) {
            bad("color 0" + sign, 1, 7);
        }
        bad(";", 1, 0);
        bad("color 0;;", 1, 8);
        bad("color;0", 1, 5);
    }

    private void separators() {
        told("INPUT", "Spaces and line feeds (bytes 32 and 10) separate tokens and have no other meaning.");
        for (int one = 0; one < 256; one++) {
            char sign = (char) one;
            if (one == 32 || one == 10) {
                good(sign + "color" + sign + "0" + sign + ";" + sign, 1);
                good("" + sign + sign + "color" + sign + sign + "0;" + sign + sign + "color 0;", 2);
                bad("color 0" + sign + "0;", 1, 8);
                bad("col" + sign + "or 0;", 1, 0);
            } else {
                bad("color 0;" + sign, 1, 8);
                bad(sign + " color 0;", 1, 0);
                between(sign);
            }
        }
        good("plan4 4;color7;ad1 0 0 0 1 0;put0 1;", 3);
        good("", 0);
        good("\n", 0);
    }

    /** A byte between the word and the number of a statement that does not separate them. */
    private void between(char sign) {
        String text = "color" + sign + "0;";
        if (sign == '0') {
            good(text, 1);
        } else if (sign >= '1' && sign <= '9') {
            bad(text, 2, 5);
        } else {
            bad(text, 1, sign >= 'a' && sign <= 'z' ? 0 : 5);
        }
    }

    private void wholeText() {
        told("INPUT", "The text is [ plan G S ; ] and a sequence of statements, perhaps empty");
        good("", 0);
        good("plan 1 4;", 0);
        good("plan 1 4;color 0;", 1);
        good("color 0;", 1);
        bad("plan 1 4;plan 1 4;", 1, 9);
        bad("color 0;plan 1 4;", 1, 8);
        bad("plan;", 1, 4);
        bad("plan 1;", 1, 6);
        bad("plan 1 4 1;", 1, 9);
        numberOf("plan ", 1, 4, " 4;");
        for (int pages = 0; pages <= 33; pages++) {
            String text = "plan 1 " + pages + ";";
            if (pages == 4 || pages == 8 || pages == 16) {
                good(text, 0);
            } else {
                bad(text, 2, 7);
            }
        }
        bad("plan 1 64;", 2, 7);
        bad("plan 1 9999;", 2, 7);
    }

    /** The least and the greatest number that is taken between two texts, and the first ones that are not. */
    private void numberOf(String before, int least, int most, String after) {
        good(before + least + after);
        good(before + most + after);
        if (least > 0) {
            bad(before + (least - 1) + after, 2, before.length());
        }
        if (most < 9999) {
            bad(before + (most + 1) + after, 2, before.length());
            bad(before + 9999 + after, 2, before.length());
        }
        bad(before + 10000 + after, 1, before.length());
    }

    private void sizeOf(String before, String after) {
        for (int size = 0; size <= 9; size++) {
            if (size == 1 || size == 2 || size == 4) {
                good(before + size + after);
            } else {
                bad(before + size + after, 2, before.length());
            }
        }
    }

    private void colorStatement() {
        told("INPUT", "color FORM ; the form has color");
        numberOf("color ", 0, 1, ";");
        for (int g = 1; g <= 4; g++) {
            numberOf("plan " + g + " 4;color ", 0, 2 * g - 1, ";");
        }
        FlatPlan plan = loaded("plan 4 4;color 0;color 7;color 7;");
        inOrder("form(f, 0)", new int[] {1, 0, 0, 0, 0, 0, 0, 1}, f -> plan.form(f, 0));
    }

    private void adStatement() {
        told("INPUT", "ad SIZE GROUP COLOR SIDE PRICE READY ; adds an ad"
                + " (1, 2 or 4; 0 to 9; 0 or 1; 0 to 2; 1 to 999; 0 to 9999)");
        sizeOf("ad ", " 0 0 0 1 0;");
        numberOf("ad 1 ", 0, 9, " 0 0 1 0;");
        numberOf("ad 1 0 ", 0, 1, " 0 1 0;");
        numberOf("ad 1 0 0 ", 0, 2, " 1 0;");
        numberOf("ad 1 0 0 0 ", 1, 999, " 0;");
        numberOf("ad 1 0 0 0 1 ", 0, 9999, ";");
        FlatPlan plan = loaded("ad 1 0 0 0 1 0;ad 4 9 1 2 999 9999;ad 2 5 0 1 500 1;");
        inOrder("ad(0, what)", new int[] {1, 0, 0, 0, 1, 0, -1, 0}, what -> plan.ad(0, what));
        inOrder("ad(1, what)", new int[] {4, 9, 1, 2, 999, 9999, -1, 1}, what -> plan.ad(1, what));
        inOrder("ad(2, what)", new int[] {2, 5, 0, 1, 500, 1, -1, 1}, what -> plan.ad(2, what));
    }

    private void storyStatement() {
        told("INPUT", "story LENGTH COLOR SIDE READY ; adds a story (1 to 8; 0 or 1; 0 to 2; 0 to 9999)");
        numberOf("story ", 1, 8, " 0 0 0;");
        numberOf("story 1 ", 0, 1, " 0 0;");
        numberOf("story 1 0 ", 0, 2, " 0;");
        numberOf("story 1 0 0 ", 0, 9999, ";");
        FlatPlan plan = loaded("story 1 0 0 0;story 8 1 2 9999;story 5 0 1 1;");
        inOrder("story(0, what)", new int[] {1, 0, 0, 0, -1, 0}, what -> plan.story(0, what));
        inOrder("story(1, what)", new int[] {8, 1, 2, 9999, -1, 1}, what -> plan.story(1, what));
        inOrder("story(2, what)", new int[] {5, 0, 1, 1, -1, 1}, what -> plan.story(2, what));
    }

    private void standbyStatement() {
        told("INPUT", "standby SIZE ; adds a standby (1, 2 or 4)");
        sizeOf("standby ", ";");
        bad("standby 9999;", 2, 8);
        FlatPlan plan = loaded("standby 1;standby 2;standby 4;");
        inOrder("standby(k, 0)", new int[] {1, 2, 4}, k -> plan.standby(k, 0));
    }

    private void closeStatement() {
        told("INPUT", "close FORM TIME ; the form closes at this time (1 to 9999; the last one for a form counts)");
        numberOf("close ", 0, 1, " 1;");
        for (int g = 1; g <= 4; g++) {
            numberOf("plan " + g + " 4;close ", 0, 2 * g - 1, " 1;");
        }
        numberOf("close 0 ", 1, 9999, ";");
        FlatPlan less = loaded("close 0 5;close 1 7;close 0 3;");
        due("form(0, 2), at last less", 3, () -> less.form(0, 2));
        due("form(1, 2)", 7, () -> less.form(1, 2));
        FlatPlan more = loaded("close 0 3;close 0 5;");
        due("form(0, 2), at last more", 5, () -> more.form(0, 2));
        due("pass(4) before the last one", 0, () -> more.pass(4));
        due("pass(1) to the last one", 1, () -> more.pass(1));
    }

    private void putStatement() {
        told("INPUT", "put AD PAGE ; | lay STORY PAGE ; an item that stands before is placed (a page of the magazine)");
        numberOf(AD + "put ", 0, 0, " 1;");
        numberOf(AD + AD + AD + "put ", 0, 2, " 1;");
        bad("put 0 1;" + AD, 2, 4);
        bad(AD + "put 1 1;" + AD, 2, 19);
        bad(STORY + "put 0 1;", 2, 18);
        numberOf(AD + "put 0 ", 1, 16, ";");
        for (int[] size : new int[][] {{1, 4}, {1, 8}, {2, 4}, {3, 16}, {4, 16}}) {
            numberOf("plan " + size[0] + " " + size[1] + ";" + AD + "put 0 ", 1, size[0] * size[1], ";");
        }
        FlatPlan plan = loaded("plan 4 16;" + AD + AD + "put 1 64;put 0 1;");
        due("ad(0, 6)", 1, () -> plan.ad(0, 6));
        due("ad(1, 6)", 64, () -> plan.ad(1, 6));
    }

    private void layStatement() {
        told("INPUT", "lay STORY PAGE ; an item that stands before is placed (a page of the magazine)");
        numberOf(STORY + "lay ", 0, 0, " 1;");
        numberOf(STORY + STORY + STORY + "lay ", 0, 2, " 1;");
        bad("lay 0 1;" + STORY, 2, 4);
        bad(STORY + "lay 1 1;" + STORY, 2, 18);
        bad(AD + "lay 0 1;", 2, 19);
        numberOf(STORY + "lay 0 ", 1, 16, ";");
        for (int[] size : new int[][] {{1, 4}, {1, 8}, {2, 4}, {3, 16}, {4, 16}}) {
            numberOf("plan " + size[0] + " " + size[1] + ";" + STORY + "lay 0 ", 1, size[0] * size[1], ";");
        }
        FlatPlan plan = loaded("plan 4 16;" + STORY + "story 8 0 0 0;lay 1 57;lay 0 1;");
        due("story(0, 4)", 1, () -> plan.story(0, 4));
        due("story(1, 4)", 57, () -> plan.story(1, 4));
    }

    /** A plan in which everything differs from a new one. */
    private FlatPlan used() {
        FlatPlan plan = loaded("plan 4 4;color 0;color 7;close 0 2;close 7 3;ad 1 1 1 1 9 9;ad 4 0 0 2 8 0;ad 2 3 0 0 7 0;"
                + "story 2 0 0 0;standby 1;standby 2;put 0 4;lay 0 5;");
        plan.use(1, 8);
        plan.pass(2);
        plan.put(2, 10);
        plan.print(5);
        return plan;
    }

    private void loadReplacesAll() {
        told("INPUT", "A text without errors replaces everything; nothing can be undone then.");
        for (String text : List.of("", " \n", "plan 1 16;", "plan 2 4;" + AD + "standby 1;", "plan 4 4;close 1 1;",
                "plan 4 4;" + AD + AD + AD + STORY + "standby 1;standby 2;")) {
            FlatPlan plan = used();
            due("undoCount() before", 4, () -> plan.undoCount());
            Check.append(plan, text);
            due("load of [" + text + "]", statementsOf(text.isBlank() ? "" : text), () -> plan.load());
            check.same("the plan of [" + text + "] after another one", Snapshot.of(plan), Snapshot.of(loaded(text)));
            due("undoCount()", 0, () -> plan.undoCount());
            due("undo()", false, () -> plan.undo());
            due("lost()", 0, () -> plan.lost());
            due("count(6)", 0, () -> plan.count(6));
        }
    }

    /** What stood in a longer text is seen nowhere in a shorter one. */
    private void nothingStays() {
        told("INPUT", "A text without errors replaces everything;");
        String longer = "plan 2 8;color 0;color 1;color 2;color 3;close 0 3;close 1 3;close 2 3;close 3 3;"
                + "ad 1 1 1 1 1 9;ad 1 2 1 1 2 9;ad 1 3 1 0 3 9;ad 1 1 1 0 4 9;ad 2 2 1 0 5 9;ad 1 3 1 0 6 9;story 2 1 0 9;story 1 1 0 9;"
                + "story 1 1 0 9;standby 1;standby 1;standby 2;put 0 2;put 1 2;put 2 2;put 3 4;put 4 4;put 5 4;lay 0 6;lay 1 8;lay 2 9;";
        String[] shorter = {"", "plan 1 8;ad 1 1 0 0 7 0;put 0 2;", "plan 1 8;color 0;ad 1 1 0 0 7 0;ad 4 0 0 0 9 0;put 0 6;put 1 4;",
            "plan 1 8;close 0 5;ad 1 1 0 0 7 0;ad 1 2 0 0 9 9;ad 1 3 0 0 9 0;story 1 0 0 0;standby 1;put 1 4;",
            "plan 2 8;color 1;color 2;color 3;ad 1 1 0 0 7 9;ad 1 2 0 0 9 0;ad 1 3 0 0 9 0;story 1 0 0 0;story 1 0 0 0;"};
        for (String text : shorter) {
            FlatPlan plan = loaded(longer);
            Check.append(plan, text);
            plan.load();
            check.same("the answers of [" + text + "] after a longer text", Snapshot.answers(plan), Snapshot.answers(loaded(text)));
        }
    }

    // ---- ERRORS

    private void firstError() {
        told("ERRORS", "The first error is reported, from left to right");
        bad("color 9;bad", 2, 6);
        bad("bad;color 9;", 1, 0);
        bad("color 2 2;", 2, 6);
        bad("ad 3 10 2 3 0 0;", 2, 3);
        bad("ad 1 10 2 3 0 0;", 2, 5);
        bad(AD + "put 0 1;put 0 1;color 9;", 4, 29);
        bad(AD + "color 9;put 0 1;put 0 1;", 2, 21);
        bad("standby 1;".repeat(9) + "bad", 3, 80);
        bad("standby 1;".repeat(8) + "bad;standby 1;", 1, 80);
    }

    private void positions() {
        told("ERRORS", "(the index of the first byte of the token concerned, or the length of the text if it ends too early)");
        for (String[] statement : STATEMENTS) {
            String[] tokens = statement[1].split(" ");
            String text = statement[0];
            for (int i = 0; i < tokens.length - 1; i++) {
                text += tokens[i];
                bad(text, 1, text.length());
                text += " ";
                bad(text, 1, text.length());
                bad(text + "\n  ", 1, text.length() + 3);
            }
        }
        bad("  \n color", 1, 9);
        bad("\n  bad", 1, 3);
        bad("color 0 ;  color  22;", 2, 18);
        bad("x", 1, 0);
        bad("colo", 1, 0);
        bad("color 0;colo", 1, 8);
    }

    private void lowestCode() {
        told("ERRORS", "if several codes apply to a token, the lowest one is reported");
        // 1 before 2
        bad("color 00009;", 1, 6);
        bad("close 0 10000;", 1, 8);
        // 1 before 4, and 2 before 4
        bad(AD + "put 0 1;put 0 00001;", 1, 29);
        bad(AD + "put 0 1;put 0 x;", 1, 29);
        bad(AD + "put 0 1;put 0 0;", 2, 29);
        bad(AD + "put 0 1;put 0 17;", 2, 29);
        bad(STORY + "lay 0 1;lay 0 17;", 2, 28);
        bad(STORY + "lay 0 1;lay 0 00017;", 1, 28);
        // 1 before 3: what is no word for an ad is no 41st ad
        bad(AD.repeat(40) + "ads 1;", 1, 600);
    }

    private void syntax() {
        told("ERRORS", "1 syntax: something that is not a token (also a word or number that is too long),"
                + " or a token that is not allowed at its place");
        for (String[] statement : STATEMENTS) {
            String[] tokens = statement[1].split(" ");
            for (int i = 0; i < tokens.length; i++) {
                int at = statement[0].length() + positionOf(tokens, i);
                for (String other : List.of("?", "+", "abcdefghi", "12345", "x", "color", "1", ";")) {
                    boolean fits = isNumber(tokens[i]) && isNumber(other) && other.length() < 5
                            || tokens[i].equals(other) || i == 0 && other.equals("color");
                    if (!fits) {
                        bad(statement[0] + with(tokens, i, other), 1, at);
                    }
                }
            }
            bad(statement[0] + statement[1] + "1", 1, statement[0].length() + statement[1].length());
            bad(statement[0] + statement[1].replace(";", "1 ;"), 1, statement[0].length() + statement[1].length() - 1);
        }
        bad("plan 1 4;plan 1 4;", 1, 9);
    }

    private void range() {
        told("ERRORS", "2 range: a number that is not as told");
        good("color 1;", 1);
        bad("color 2;", 2, 6);
        bad("plan 0 4;", 2, 5);
        bad("plan 1 5;", 2, 7);
        bad("ad 3 0 0 0 1 0;", 2, 3);
        bad("ad 1 0 0 0 1000 0;", 2, 11);
        bad("standby 3;", 2, 8);
        bad("close 0 0;", 2, 8);
        bad("put 0 1;", 2, 4);
        bad("lay 0 1;", 2, 4);
    }

    private void limit() {
        told("ERRORS", "3 limit: the first word of a 41st ad, an 11th story or a ninth standby");
        good(AD.repeat(40) + STORY.repeat(10) + "standby 1;".repeat(8), 58);
        bad(AD.repeat(40) + AD, 3, 600);
        bad(AD.repeat(40) + "\n ad", 3, 602);
        bad(STORY.repeat(10) + STORY, 3, 140);
        bad(STORY.repeat(10) + "story 0", 3, 140);
        bad("standby 1;".repeat(8) + "standby 1;", 3, 80);
        bad("standby 1;".repeat(8) + " standby;", 3, 81);
        // What is limited elsewhere or not at all
        good(AD.repeat(40) + "color 0;story 1 0 0 0;standby 1;close 0 1;put 39 1;lay 0 2;", 46);
        good("color 0;close 0 1;".repeat(41), 82);
    }

    private void place() {
        told("ERRORS", "4 place: the PAGE of an item that is placed already, or that cannot be placed there.");
        // placed already, there or elsewhere
        bad(AD + "put 0 1;put 0 1;", 4, 29);
        bad(AD + "put 0 1;put 0 16;", 4, 29);
        bad(STORY + "lay 0 1;lay 0 1;", 4, 28);
        bad(STORY + "lay 0 1;lay 0 16;", 4, 28);
        // 3, 4, 5 and 6 of an ad
        good("ad 4 0 0 0 1 0;ad 4 0 0 0 1 0;put 0 1;put 1 2;", 4);
        bad("ad 4 0 0 0 1 0;ad 1 0 0 0 1 0;put 0 1;put 1 1;", 4, 44);
        bad(AD + STORY + "lay 0 2;put 0 2;", 4, 43);
        good("color 0;ad 1 0 1 0 1 0;put 0 1;", 3);
        bad("ad 1 0 1 0 1 0;put 0 1;color 0;", 4, 21);
        good("ad 1 0 0 1 1 0;put 0 2;", 2);
        bad("ad 1 0 0 1 1 0;put 0 1;", 4, 21);
        bad("ad 1 0 0 2 1 0;put 0 2;", 4, 21);
        good("ad 1 9 0 0 1 0;ad 1 9 0 0 1 0;put 0 2;put 1 1;", 4);
        bad("ad 1 9 0 0 1 0;ad 1 9 0 0 1 0;put 0 2;put 1 3;", 4, 44);
        // 1, 3, 4 and 5 of a story
        good("story 2 0 0 0;lay 0 15;", 2);
        bad("story 2 0 0 0;lay 0 16;", 4, 20);
        bad(AD + "story 2 0 0 0;put 0 2;lay 0 1;", 4, 43);
        good(AD + "story 2 0 0 0;put 0 3;lay 0 1;", 4);
        bad("color 0;story 2 1 0 0;lay 0 1;", 4, 28);
        good("color 0;color 1;story 2 1 0 0;lay 0 1;", 4);
        bad("story 1 0 1 0;lay 0 1;", 4, 20);
        bad("story 1 0 2 0;lay 0 2;", 4, 20);
    }

    // ---- promises 2 to 6

    private void appendInput() {
        told("Promise 2", "Returns the new length of the buffer; NONE if it would exceed 1600 bytes (then nothing is appended).");
        FlatPlan plan = new FlatPlan();
        for (int length = 20; length <= 1600; length += 20) {
            due("appendInput to " + length, length, () -> plan.appendInput(0, 0, 0, 0, 0));
        }
        due("appendInput to 1620", -1, () -> plan.appendInput(0, 0, 0, 0, 0));
        due("truncateInput(1601)", -1, () -> plan.truncateInput(1601));
        for (int length : new int[] {1599, 1590, 1581}) {
            due("truncateInput(" + length + ")", length, () -> plan.truncateInput(length));
            due("appendInput to " + (length + 20), -1, () -> plan.appendInput(0, 0, 0, 0, 0));
            due("truncateInput(" + (length + 1) + ")", -1, () -> plan.truncateInput(length + 1));
        }
        due("truncateInput(1580)", 1580, () -> plan.truncateInput(1580));
        due("appendInput to 1600", 1600, () -> plan.appendInput(0, 0, 0, 0, 0));
        FlatPlan text = new FlatPlan();
        Check.append(text, "color 0;".repeat(197) + "     ");
        due("appendInput to 1601", -1, () -> text.appendInput(-1, -1, -1, -1, -1));
        due("truncateInput(1581)", 1581, () -> text.truncateInput(1581));
        due("load() of what stood there", 197, () -> text.load());
    }

    private void appendedBytes() {
        told("Promise 2", "Appends 20 bytes to the input buffer: the four bytes of each argument, most significant byte first.");
        FlatPlan plan = new FlatPlan();
        due("appendInput", 20, () -> plan.appendInput(0x636f6c6f, 0x7220313b, 0x7374616e, 0x64627920, 0x323b200a));
        due("load()", 2, () -> plan.load());
        due("form(1, 0)", 1, () -> plan.form(1, 0));
        due("standby(0, 0)", 2, () -> plan.standby(0, 0));
        String[] words = {"`w0`: first four bytes", "`w1`: next four bytes", "`w2`: next four bytes", "`w3`: next four bytes",
            "`w4`: last four bytes"};
        for (int word = 0; word < words.length; word++) {
            told("Promise 2", words[word]);
            noTokenAmongSpaces(word);
        }
    }

    /** One byte that is no token among spaces, at each of the four places of a word. */
    private void noTokenAmongSpaces(int word) {
        for (int wrong : new int[] {0, 127, 128, 255}) {
            for (int place = 4 * word; place < 4 * word + 4; place++) {
                int[] w = {0x20202020, 0x20202020, 0x20202020, 0x20202020, 0x20202020};
                int shift = 24 - 8 * (place % 4);
                w[place / 4] = w[place / 4] & ~(255 << shift) | wrong << shift;
                FlatPlan spoiled = new FlatPlan();
                spoiled.appendInput(w[0], w[1], w[2], w[3], w[4]);
                int due = place;
                due("load() with the byte " + wrong + " at " + place, -3, () -> spoiled.load());
                due("errorPosition()", due, () -> spoiled.errorPosition());
            }
        }
    }

    private void truncateInput() {
        told("Promise 3", "Shortens the input buffer to its first bytes.");
        FlatPlan plan = new FlatPlan();
        Check.append(plan, "color 0;bad");
        due("truncateInput(8)", 8, () -> plan.truncateInput(8));
        due("load()", 1, () -> plan.load());
        FlatPlan on = new FlatPlan();
        Check.append(on, "color 0;bad");
        on.truncateInput(8);
        due("appendInput behind the first 8", 28, () -> on.appendInput(0x2020636f, 0x6c6f7220, 0x313b2020, 0x20202020, 0x20202020));
        due("load() of both", 2, () -> on.load());
        // What stood behind the first bytes belongs to no token.
        String[] cut = {"color 01;", "color   0;", "colors 0;", "color 0;", "color 0 ;", "standby 1;"};
        int[] lengths = {7, 6, 5, 7, 7, 6};
        int[] positions = {7, 6, 5, 7, 7, 0};
        for (int i = 0; i < cut.length; i++) {
            FlatPlan one = new FlatPlan();
            Check.append(one, cut[i]);
            one.truncateInput(lengths[i]);
            due("load() of " + lengths[i] + " bytes of [" + cut[i] + "]", -3, () -> one.load());
            due("errorPosition()", positions[i], () -> one.errorPosition());
        }
        told("Promise 3", "`length`: 0 to the current length");
        for (int length : new int[] {0, 1, 20}) {
            FlatPlan one = new FlatPlan();
            one.appendInput(0, 0, 0, 0, 0);
            due("truncateInput(" + length + ") of 20", length, () -> one.truncateInput(length));
        }
        told("Promise 3", "Returns the new length; NONE if length is out of range.");
        for (int length : new int[] {LEAST, -20, -1, 21, 40, 1600, GREATEST}) {
            FlatPlan one = new FlatPlan();
            one.appendInput(0, 0, 0, 0, 0);
            due("truncateInput(" + length + ") of 20", -1, () -> one.truncateInput(length));
            due("the length then", 20, () -> one.truncateInput(20));
        }
        FlatPlan empty = new FlatPlan();
        due("truncateInput(1) of 0", -1, () -> empty.truncateInput(1));
        due("truncateInput(-1) of 0", -1, () -> empty.truncateInput(-1));
        due("truncateInput(0) of 0", 0, () -> empty.truncateInput(0));
        due("truncateInput(0) again", 0, () -> empty.truncateInput(0));
    }

    private void load() {
        told("Promise 4", "Returns the number of statements, plan not included");
        good("", 0);
        good("plan 4 16;", 0);
        good("plan 4 16;color 0;", 1);
        good("color 0;".repeat(200), 200);
        told("Promise 4", "TEXT_ERROR if the text has an error (then only the buffer and the error change).");
        for (String text : List.of("bad", "plan 1 4;bad", AD.repeat(41), "plan 1 8;" + AD + "put 0 1;put 0 1;", "plan 5 4;")) {
            FlatPlan plan = used();
            plan.describe(4);
            List<Object> before = Snapshot.of(plan);
            Check.append(plan, text);
            due("load of [" + text + "]", -3, () -> plan.load());
            due("errorCode() is one", true, () -> plan.errorCode() > 0);
            due("the buffer", -1, () -> plan.truncateInput(1));
            Check.append(plan, "plan");
            plan.load();
            due("undo() after a failed load", true, () -> plan.undo());
            plan.print(5);
            List<Object> after = Snapshot.of(plan);
            int error = Snapshot.errorIn(after);
            check.same("the error", after.get(error) + " " + after.get(error + 1), "1 4");
            after.set(error, before.get(error));
            after.set(error + 1, before.get(error + 1));
            check.same("the plan after a failed load", after, before);
        }
    }

    private void errors() {
        told("Promise 5", "Returns 1 to 4; 0 if it had no error, or if there was none.");
        FlatPlan plan = new FlatPlan();
        due("errorCode() without a load", 0, () -> plan.errorCode());
        String[] texts = {"bad", "", "color 2;", "standby 1;", "standby 1;".repeat(9), "plan 1 4;", AD + "put 0 1;put 0 2;"};
        int[] codes = {1, 0, 2, 0, 3, 0, 4};
        for (int i = 0; i < texts.length; i++) {
            Check.append(plan, texts[i]);
            plan.load();
            due("errorCode() of [" + texts[i] + "]", codes[i], () -> plan.errorCode());
        }
        told("Promise 6", "Returns the position; NONE if it had no error, or if there was none.");
        FlatPlan other = new FlatPlan();
        due("errorPosition() without a load", -1, () -> other.errorPosition());
        int[] positions = {0, -1, 6, -1, 80, -1, 29};
        for (int i = 0; i < texts.length; i++) {
            Check.append(other, texts[i]);
            other.load();
            due("errorPosition() of [" + texts[i] + "]", positions[i], () -> other.errorPosition());
        }
        told("Promise 5", "Returns the error code of the last load().");
        FlatPlan last = new FlatPlan();
        Check.append(last, "bad");
        due("errorCode() before load()", 0, () -> last.errorCode());
        last.load();
        last.load();
        due("errorCode() of a load() of nothing", 0, () -> last.errorCode());
        told("Promise 6", "Returns the error position of the last load().");
        FlatPlan kept = new FlatPlan();
        Check.append(kept, " bad");
        kept.load();
        Check.append(kept, "color 0;");
        due("errorPosition() until the next load()", 1, () -> kept.errorPosition());
        kept.load();
        due("errorPosition() of the next one", -1, () -> kept.errorPosition());
    }
}
