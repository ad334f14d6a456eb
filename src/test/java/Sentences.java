import java.io.IOException;
import java.util.ArrayList;
import java.util.Arrays;
import java.util.List;
import java.util.Map;
import java.util.TreeMap;

/**
 * The sentences of the document. A test quotes the sentences that it is about, whole or in parts; in the end each
 * quotation must stand in the document where the test says, and no word may be left that no test has quoted.
 */
final class Sentences {

    private static final Map<Integer, List<String>> QUOTED = new TreeMap<>();
    private static String open = null;
    private static int madeBefore;

    private Sentences() {
    }

    static void term(String... quotes) {
        about(Document.TERMS, "Terms", quotes);
    }

    static void promise(int number, String... quotes) {
        about(number, "Promise " + number, quotes);
    }

    /** A sentence ahead of the promises or behind them that promises nothing. */
    static void saysNothingToTest(String quote) {
        QUOTED.computeIfAbsent(Document.TERMS, k -> new ArrayList<>()).add(quote);
    }

    /** What the document says ahead of some calls of the face. */
    static String ahead(String title, String... calls) {
        return "Ahead of the calls `" + String.join("`, `", calls) + "` the interface says: ---- " + title + ".";
    }

    private static void about(int section, String name, String... quotes) {
        close();
        open = name + ", '" + String.join("' '", quotes) + "'";
        Checks.topic(open);
        QUOTED.computeIfAbsent(section, k -> new ArrayList<>()).addAll(List.of(quotes));
        madeBefore = Checks.made();
    }

    private static void close() {
        if (open != null) {
            Checks.due("the sentence has a test", Checks.made() > madeBefore, true);
        }
    }

    static void end() throws IOException {
        close();
        Checks.topic("the document");
        Document document = Document.read();
        if (document != null) {
            Checks.due("sections", document.sentences.keySet().toString(), QUOTED.keySet().toString());
            document.sentences.forEach((section, sentences) -> compare(section, sentences,
                    QUOTED.getOrDefault(section, List.of())));
        }
    }

    private static void compare(int section, List<String> sentences, List<String> quotes) {
        for (String quote : quotes) {
            boolean found = sentences.stream().anyMatch(sentence -> sentence.contains(quote));
            Checks.due("section " + section + " has '" + quote + "'", found, true);
        }
        for (String sentence : sentences) {
            Checks.due("section " + section + ": what no test quotes of '" + sentence + "'", left(sentence, quotes),
                    "");
        }
    }

    /** The letters and digits of the sentence that stand in none of the quotations. */
    private static String left(String sentence, List<String> quotes) {
        boolean[] quoted = new boolean[sentence.length()];
        for (String quote : quotes) {
            for (int at = sentence.indexOf(quote); at >= 0; at = sentence.indexOf(quote, at + 1)) {
                Arrays.fill(quoted, at, at + quote.length(), true);
            }
        }
        StringBuilder left = new StringBuilder();
        for (int i = 0; i < quoted.length; i++) {
            if (!quoted[i] && Character.isLetterOrDigit(sentence.charAt(i))) {
                left.append(sentence.charAt(i));
            }
        }
        return left.toString();
    }
}
