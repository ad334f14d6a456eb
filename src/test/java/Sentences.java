import java.io.IOException;
import java.nio.file.Files;
import java.nio.file.Path;
import java.util.ArrayList;
import java.util.List;
import java.util.Map;
import java.util.TreeMap;
import java.util.regex.Matcher;
import java.util.regex.Pattern;

/**
 * The sentences of the document. A test quotes the sentences that it is about; in the end each quotation must stand in
 * the document where the test says, and no sentence may be left that no test has quoted.
 */
final class Sentences {

    private static final Path DOCUMENT = Path.of("../shared/DOC.md");

    /** Stands for all that is written ahead of the promises. */
    private static final int TERMS = 0;

    private static final Map<Integer, List<String>> QUOTED = new TreeMap<>();
    private static String open = null;
    private static int madeBefore;

    private Sentences() {
    }

    static void term(String... quotes) {
        about(TERMS, "Terms", quotes);
    }

    static void promise(int number, String... quotes) {
        about(number, "Promise " + number, quotes);
    }

    /** A sentence that only introduces others. */
    static void saysNothingToTest(String quote) {
        QUOTED.computeIfAbsent(TERMS, k -> new ArrayList<>()).add(quote);
    }

    private static void about(int section, String name, String... quotes) {
        close();
        open = name + ", '" + String.join("' '", quotes) + "'";
        Checks.topic(open);
        QUOTED.computeIfAbsent(section, k -> new ArrayList<>()).addAll(List.of(quotes));
        madeBefore = Checks.made();
    }

    private static void close() {
        if (open != null) {
            Checks.due("the sentence has a test", Checks.made() > madeBefore, true);
        }
    }

    static void end() throws IOException {
        close();
        Checks.topic("the document");
        if (!Files.exists(DOCUMENT)) {
            System.out.println("there is no " + DOCUMENT + " to compare the quotations with");
            return;
        }
        Map<Integer, List<String>> written = written(Files.readString(DOCUMENT));
        Checks.due("sections", written.keySet().toString(), QUOTED.keySet().toString());
        written.forEach((section, units) -> compare(section, units, QUOTED.getOrDefault(section, List.of())));
    }

    private static void compare(int section, List<String> units, List<String> quotes) {
        for (String quote : quotes) {
            boolean found = units.stream().anyMatch(unit -> unit.contains(quote));
            Checks.due("section " + section + " has '" + quote + "'", found, true);
        }
        for (String unit : units) {
            boolean quoted = quotes.stream().anyMatch(unit::contains);
            Checks.due("section " + section + ": '" + unit + "' is quoted by a test", quoted, true);
        }
    }

    private static Map<Integer, List<String>> written(String document) {
        Map<Integer, List<String>> sections = new TreeMap<>();
        for (String part : document.split("(?m)^## ")) {
            int lineEnd = part.indexOf('\n');
            String title = lineEnd < 0 ? part : part.substring(0, lineEnd);
            Matcher promise = Pattern.compile("Promise (\\d+):.*").matcher(title);
            boolean terms = title.equals("Terms") || title.equals("What it is");
            if (terms || promise.matches()) {
                int section = terms ? TERMS : Integer.parseInt(promise.group(1));
                sections.computeIfAbsent(section, k -> new ArrayList<>()).addAll(units(part.substring(lineEnd)));
            }
        }
        return sections;
    }

    /** The sentences and the lines for parameters, each in one line. */
    private static List<String> units(String part) {
        List<String> units = new ArrayList<>();
        for (String paragraph : part.replace("\n- ", "\n\n- ").split("\n\\s*\n")) {
            for (String sentence : paragraph.replaceAll("\\s+", " ").trim().split("(?<=\\.|\\.\\)) ")) {
                if (!sentence.isEmpty()) {
                    units.add(sentence);
                }
            }
        }
        return units;
    }
}
