import java.nio.file.Files;
import java.nio.file.Path;
import java.util.List;
import java.util.regex.Matcher;
import java.util.regex.Pattern;

/** What of LANGUAGE.md can be seen in the words of the source. The test runs in the project's folder. */
public final class LanguageTest {

    private static final Path SOURCE = Path.of("src/main/java/DesiredStateKeeper.java");
    private static final String[] OUTSIDE = {"->", "::", "\\btry\\b", "\\bcatch\\b", "\\bfinally\\b",
        "\\bsynchronized\\b", "\\bassert\\b", "\\bextends\\b", "\\bpackage\\b", "\\bstatic\\s*\\{", "\\w+Exact\\b",
        "\\bvar\\b", "\\bdouble\\b", "\\bfloat\\b", "\\bequals\\b", "\\bhashCode\\b", "\\btoString\\b",
        "\\bprotected\\b", "System\\.(?!arraycopy\\b)", "Arrays\\.(?!fill\\b)", "Math\\.(?!min\\b|max\\b)",
        "Integer\\.(?!bitCount\\b)"};

    public static void main(String[] args) throws Exception {
        List<String> lines = Files.readAllLines(SOURCE);
        String code = String.join("\n", lines).replaceAll("(?s)/\\*.*?\\*/", "").replaceAll("//[^\n]*", "");
        for (String word : OUTSIDE) {
            Matcher found = Pattern.compile(word).matcher(code);
            Checks.due("the source has " + word, found.find(), false);
        }
        Checks.due("one import", code.split("\\bimport\\b", -1).length, 2);
        Checks.due("the import", code.contains("import java.util.Arrays;"), true);
        Checks.due("signs from 1 to 127", code.chars().allMatch(c -> c > 0 && c < 128), true);
        throwsAreWritten(code);
        methodsAreShort(lines);
        Checks.end("LanguageTest");
    }

    private static void throwsAreWritten(String code) {
        String written = "throw new (IllegalState|IllegalArgument|IndexOutOfBounds)Exception\\(\"[^\"]*\"\\);";
        Checks.due("throws of written texts", code.replaceAll(written, "").contains("throw "), false);
    }

    private static void methodsAreShort(List<String> lines) {
        for (int i = 0; i < lines.size(); i++) {
            Matcher head = Pattern.compile("( {4}| {8})[a-zA-Z].*\\(.*\\{").matcher(lines.get(i));
            if (head.matches()) {
                int end = i + lines.subList(i, lines.size()).indexOf(head.group(1) + "}");
                Checks.due("at most sixty lines: " + lines.get(i).trim(), end - i < 60, true);
            }
        }
    }
}
