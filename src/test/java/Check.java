/** Counts the calls whose answer is not the one that is due, and prints them. */
final class Check {
    interface Call {
        Object answer();
    }

    private final String name;
    private Document document;
    private String sentence = "";
    private int answersOfSentence;
    private int calls;
    private int wrong;

    Check(String name) {
        this.name = name;
    }

    /** Until the next one the answers are of this sentence, which must stand in this section of the document. */
    void sentence(String section, String words) {
        endOfSentence();
        sentence = section + " \"" + words + "\": ";
        same("standing in the document", document().quote(section, words), true);
        answersOfSentence = 0;
    }

    private void endOfSentence() {
        if (!sentence.isEmpty()) {
            same("being tested", answersOfSentence > 0, true);
        }
    }

    Document document() {
        if (document == null) {
            document = new Document();
        }
        return document;
    }

    void same(String call, Object got, Object due) {
        calls++;
        answersOfSentence++;
        if (!got.equals(due)) {
            wrong++;
            System.out.println(sentence + call + " answered " + got + ", due is " + due);
        }
    }

    /** The call answers an int, a boolean or a double. */
    void due(String call, Object due, Call made) {
        same(call, answerOf(made), due);
    }

    void index(String call, Call made) {
        same(call, answerOf(made), "throws.IndexOutOfBoundsException");
    }

    void argument(String call, Call made) {
        same(call, answerOf(made), "throws.IllegalArgumentException");
    }

    /** The answer of a call, or "throws." and the exception's very own class. */
    static Object answerOf(Call made) {
        try {
            return made.answer();
        } catch (RuntimeException e) {
            return "throws." + e.getClass().getSimpleName();
        }
    }

    /** A new plan that has loaded a text without errors. */
    FlatPlan loaded(String text) {
        FlatPlan plan = new FlatPlan();
        append(plan, text);
        if (plan.load() == FlatPlan.TEXT_ERROR) {
            same("load of " + text, "error " + plan.errorCode() + " at " + plan.errorPosition(), "none");
        }
        return plan;
    }

    /** Appends the bytes of a text whose length with what stands before is at most 1600. */
    static void append(FlatPlan plan, String text) {
        int length = plan.truncateInput(0);
        for (int at = 0; at < text.length(); at += 20) {
            int[] word = new int[5];
            for (int i = 0; i < 20; i++) {
                int one = at + i < text.length() ? text.charAt(at + i) : 0;
                word[i / 4] |= (one & 255) << (24 - 8 * (i % 4));
            }
            length = plan.appendInput(word[0], word[1], word[2], word[3], word[4]);
        }
        if (length != (text.length() + 19) / 20 * 20 || plan.truncateInput(text.length()) != text.length()) {
            throw new IllegalStateException("the text was not taken: " + text);
        }
    }

    /** The description of a page as a text. */
    static String described(FlatPlan plan, int page) {
        StringBuilder text = new StringBuilder();
        int length = plan.describe(page);
        for (int i = 0; i < length; i++) {
            text.append((char) plan.describedByte(i));
        }
        return text.toString();
    }

    int wrong() {
        return wrong;
    }

    void end() {
        endOfSentence();
        System.out.println(name + ": " + calls + " answers, " + wrong + " wrong");
        if (wrong != 0 || calls == 0) {
            System.exit(1);
        }
    }
}
