import java.io.IOException;
import java.nio.file.Files;
import java.nio.file.Path;
import java.util.ArrayList;
import java.util.BitSet;
import java.util.LinkedHashMap;
import java.util.List;
import java.util.Map;

/**
 * The sentences of ../shared/DOC.md that a test can quote. A section is "Promise 1" to "Promise 60",
 * "What it is", or a paragraph of the description by its first word: PAGES, ITEMS, REASONS, TIME,
 * INPUT, ERRORS, UNDO, Exceptions and Constants.
 */
final class Document {
    private static final List<String> PARAGRAPHS =
            List.of("PAGES", "ITEMS", "REASONS", "TIME", "INPUT", "ERRORS", "UNDO");

    private final Map<String, List<String>> lines = new LinkedHashMap<>();
    private final Map<String, BitSet> quoted = new LinkedHashMap<>();

    Document() {
        String section = "";
        boolean code = false;
        for (String line : allLines()) {
            String words = line.trim().replaceAll("\\s+", " ");
            if (words.startsWith("```")) {
                code = !code;
            } else if (words.startsWith("#")) {
                section = sectionOf(words);
            } else if (!code && !words.isEmpty()) {
                section = paragraphOf(words, section);
                lines.computeIfAbsent(section, any -> new ArrayList<>()).add(words.replaceFirst("^- ", ""));
            }
        }
        lines.remove("");
    }

    private static List<String> allLines() {
        try {
            return Files.readAllLines(Path.of("../shared/DOC.md"));
        } catch (IOException e) {
            throw new IllegalStateException("../shared/DOC.md cannot be read");
        }
    }

    private static String sectionOf(String heading) {
        if (heading.startsWith("## Promise")) {
            return heading.substring(3, heading.indexOf(':'));
        }
        return heading.equals("## What it is") ? "What it is" : "";
    }

    /** The paragraph of the description that begins with these words, or else the present section. */
    private static String paragraphOf(String words, String section) {
        for (String paragraph : PARAGRAPHS) {
            if (words.startsWith(paragraph)) {
                return paragraph;
            }
        }
        if (words.startsWith("Exceptions are checked")) {
            return "Exceptions";
        }
        if (words.startsWith("The constants:")) {
            return "Constants";
        }
        return words.startsWith("The constructor and the methods follow") ? "" : section;
    }

    private String text(String section) {
        return String.join(" ", lines.getOrDefault(section, List.of()));
    }

    /** Whether these words stand in the section; they count as quoted from now on. */
    boolean quote(String section, String words) {
        int at = text(section).indexOf(words);
        if (at < 0 || words.isEmpty()) {
            return false;
        }
        quoted.computeIfAbsent(section, any -> new BitSet()).set(at, at + words.length());
        return true;
    }

    /** The parts of sentences of which no word was quoted, each behind the name of its section. */
    List<String> unquoted() {
        List<String> left = new ArrayList<>();
        for (String section : lines.keySet()) {
            BitSet marks = quoted.getOrDefault(section, new BitSet());
            int at = 0;
            for (String line : lines.get(section)) {
                for (String part : line.split("(?<=[.;:]) ")) {
                    int mark = marks.nextSetBit(at);
                    if (mark < 0 || mark >= at + part.length()) {
                        left.add(section + ": " + part);
                    }
                    at += part.length() + 1;
                }
            }
        }
        return left;
    }
}
