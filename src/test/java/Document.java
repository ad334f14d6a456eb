import java.io.IOException;
import java.nio.file.Files;
import java.nio.file.Path;
import java.util.ArrayList;
import java.util.List;
import java.util.Map;
import java.util.TreeMap;
import java.util.regex.Matcher;
import java.util.regex.Pattern;

/** The document, ../shared/DOC.md, in its parts: titles, the face, the heads of the promises, and all sentences. */
final class Document {

    /** Stands for all sentences that belong to no promise. */
    static final int TERMS = 0;

    private static final Path FILE = Path.of("../shared/DOC.md");
    private static final Pattern PROMISE = Pattern.compile("Promise (\\d+): (.*)");
    private static final Pattern HEAD = Pattern.compile("^`([^`]*\\([^`]*)`: ");

    /** A title in capital letters, which stands in a line of its own ahead of some paragraphs. */
    private static final String HEADING = "(?m)^[A-Z][A-Z, ]+$";

    final List<String> titles = new ArrayList<>();
    final List<String> face = new ArrayList<>();
    final List<String> heads = new ArrayList<>();
    final Map<Integer, List<String>> sentences = new TreeMap<>();

    private Document(String text) {
        for (String part : text.split("(?m)^## ")) {
            int lineEnd = part.indexOf('\n');
            String title = part.substring(0, lineEnd);
            String body = part.substring(lineEnd);
            titles.add(title);
            if (title.equals("The public face")) {
                faceOf(body);
            } else if (!title.startsWith("# ")) {
                Matcher promise = PROMISE.matcher(title);
                int section = promise.matches() ? Integer.parseInt(promise.group(1)) : TERMS;
                sentences.computeIfAbsent(section, k -> new ArrayList<>()).addAll(sentencesOf(body));
            }
        }
    }

    /** Null, and a line that tells it, if the document is not there. */
    static Document read() throws IOException {
        if (!Files.exists(FILE)) {
            System.out.println("there is no " + FILE + " to compare with");
            return null;
        }
        return new Document(Files.readString(FILE));
    }

    private void faceOf(String body) {
        for (String line : body.split("\n")) {
            if (line.startsWith("    ")) {
                face.add(line.trim());
            }
        }
    }

    /** The sentences, and the lines for parameters, each in one line; the heads of promises are taken away. */
    private List<String> sentencesOf(String body) {
        List<String> found = new ArrayList<>();
        for (String paragraph : body.replaceAll(HEADING, "").replace("\n- ", "\n\n- ").split("\n\\s*\n")) {
            for (String sentence : paragraph.replaceAll("\\s+", " ").trim().split("(?<=\\.|\\.\\)) ")) {
                Matcher head = HEAD.matcher(sentence);
                if (head.find()) {
                    heads.add(head.group(1));
                    sentence = sentence.substring(head.end());
                }
                if (!sentence.isEmpty()) {
                    found.add(sentence);
                }
            }
        }
        return found;
    }
}
