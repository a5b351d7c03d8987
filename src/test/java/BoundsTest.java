import java.util.ArrayList;
import java.util.List;
import java.util.Set;

/**
 * The boundary cases of the document, sentence by sentence: each test quotes its promise (or paragraph)
 * and its sentence, and every sentence is quoted or stands in the list of those that name no boundary.
 */
public final class BoundsTest {
    /** What only names what its method is about; the other sentences of its promise tell the cases. */
    private static final Set<String> NO_BOUNDARY = Set.of("The constants:", "Reads the input buffer.", "Returns a number of things.",
            "Returns a property of an ad.", "Returns a property of a story.", "Returns a property of a standby.",
            "Returns a property of a page.", "Returns a property of a form.", "Returns an ad on a page.", "Returns a page of a form.",
            "Tells why an ad cannot be put on a page (REASONS).", "Tells why a story cannot be laid from a page on (REASONS).",
            "Returns the number.", "Returns the sum.", "Returns the sum;", "Returns the share of quarters that are taken.",
            "Returns the mean price of a quarter of placed ads.", "Returns the digest.");

    private BoundsTest() {
    }

    public static void main(String[] args) {
        Check check = new Check("BoundsTest");
        for (Bounds bounds : all(check)) {
            bounds.run();
        }
        List<String> left = new ArrayList<>(check.document().unquoted());
        left.removeIf(BoundsTest::namesNoBoundary);
        check.same("the sentences without a test", String.join("\n  ", left), "");
        check.end();
    }

    static List<Bounds> all(Check check) {
        return List.of(new BoundsOfText(check), new BoundsOfItems(check), new BoundsOfNumbers(check),
                new BoundsOfPlaces(check), new BoundsOfTime(check),
                new BoundsOfSearches(check), new BoundsOfSums(check), new BoundsOfChanges(check));
    }

    /** A part of a sentence behind its section's name, a signature or a heading among them. */
    private static boolean namesNoBoundary(String part) {
        String words = part.substring(part.indexOf(": ") + 2);
        return words.matches("`.*\\(.*\\).*`") || words.matches("[A-Z]+\\.") || part.startsWith("What it is: ")
                || NO_BOUNDARY.contains(words);
    }
}
