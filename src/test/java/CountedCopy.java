import java.nio.file.Files;
import java.nio.file.Path;
import java.util.regex.Matcher;
import java.util.regex.Pattern;

/**
 * Writes a copy of the class that counts the calls of each object, and ends the program at the first one that the
 * document promises nothing about. Run with such a copy, a test fails if it asks an object for more than 512 calls.
 */
final class CountedCopy {

    private static final Path SOURCE = Path.of("src/main/java/DesiredStateKeeper.java");
    private static final int METHODS = 37;
    private static final String COUNTER = "    private int callsMade;\n\n"
            + "    private void countThisCall() {\n"
            + "        callsMade++;\n"
            + "        if (callsMade > 512) {\n"
            + "            System.out.println(\"an object is asked for more than 512 calls\");\n"
            + "            new IllegalStateException(\"the call\").printStackTrace(System.out);\n"
            + "            Runtime.getRuntime().halt(1);\n"
            + "        }\n"
            + "    }\n";

    private CountedCopy() {
    }

    public static void main(String[] args) throws Exception {
        String source = Files.readString(SOURCE);
        Matcher method = Pattern.compile("(?m)^    public (?:int|boolean) \\w+\\([^{;]*\\{\n").matcher(source);
        StringBuilder copy = new StringBuilder();
        int methods = 0;
        while (method.find()) {
            method.appendReplacement(copy, Matcher.quoteReplacement(method.group() + "        countThisCall();\n"));
            methods++;
        }
        method.appendTail(copy);
        if (methods != METHODS) {
            System.out.println("the copy counts the calls of " + methods + " methods, due is " + METHODS);
            System.exit(1);
        }
        copy.insert(copy.lastIndexOf("}"), COUNTER);
        Files.writeString(Path.of(args[0], "DesiredStateKeeper.java"), copy);
    }
}
