import java.io.IOException;
import java.nio.file.DirectoryStream;
import java.nio.file.Files;
import java.nio.file.Path;
import java.util.Arrays;
import java.util.regex.Matcher;
import java.util.regex.Pattern;

/**
 * Each sentence of the document that says what a call answers or changes is quoted by a test: by Check.sentence("..")
 * wherever it stands, by Check.promise(n, "..") in one promise. What is left over here has no test of its own.
 */
public final class DocumentTest {
    private static final Path DOCUMENT = Path.of("../shared/DOC.md");
    private static final Path TESTS = Path.of("src/test/java");
    private static final String LITERALS = "((?:\\s*\\+?\\s*\"(?:[^\"\\\\]|\\\\.)*\")+)";
    private static final Pattern SENTENCE = Pattern.compile("sentence\\(" + LITERALS);
    private static final Pattern PROMISE = Pattern.compile("promise\\(([\\w\\[\\]]+)," + LITERALS);
    /** DigestTest quotes the parts of the list of promise 53 so. */
    private static final Pattern PART = Pattern.compile("[^\\w]part\\(()" + LITERALS);
    private static final Pattern LITERAL = Pattern.compile("\"((?:[^\"\\\\]|\\\\.)*)\"");
    /** The face is compared letter by letter by LanguageTest, and which exception is thrown by RefusalsTest. */
    private static final String SIGNATURE = "^(?:BeetleIndex|[a-z]+ \\w+)\\([^)]*\\)(?: throws \\w+(?:, \\w+)*)?: ";
    private static final String THROWS = "^Throws \\w+ ";
    /** What says nothing of what a call answers or changes. */
    private static final String[] SAYS_NOTHING = {
        "An index built from below by a beetle:", "what later calls answer is free.", "Snapshots, undo",
        "Ahead of the calls ", "How the state is held inside the object is free,"};

    private final String text;
    private final boolean[] quoted;
    private int quotes;

    private DocumentTest(String text) {
        this.text = text;
        quoted = new boolean[text.length()];
    }

    public static void main(String[] args) throws IOException {
        DocumentTest document = new DocumentTest(Files.readString(DOCUMENT).replace("`", ""));
        try (DirectoryStream<Path> tests = Files.newDirectoryStream(TESTS, "*Test.java")) {
            for (Path test : tests) {
                if (!test.endsWith("DocumentTest.java")) {
                    document.readQuotes(Files.readString(test));
                }
            }
        }
        Check.same("quotes are found", document.quotes > 250, true);
        document.looksAtLines();
        Check.end();
    }

    private void readQuotes(String source) {
        for (Matcher match = SENTENCE.matcher(source); match.find();) {
            quote(joined(match.group(1)), 0, text.length());
        }
        for (Matcher match = PROMISE.matcher(source); match.find();) {
            String number = match.group(1);
            boolean isOne = number.matches("\\d+");
            quote(joined(match.group(2)), isOne ? startOf(number) : 0, isOne ? endOf(number) : text.length());
        }
        for (Matcher match = PART.matcher(source); match.find();) {
            quote(joined(match.group(2)), startOf("53"), endOf("53"));
        }
    }

    private static String joined(String literals) {
        StringBuilder words = new StringBuilder();
        for (Matcher match = LITERAL.matcher(literals); match.find();) {
            words.append(match.group(1).replace("\\\"", "\""));
        }
        return words.toString();
    }

    private int startOf(String promise) {
        return Math.max(0, text.indexOf("## Promise " + promise + ": "));
    }

    private int endOf(String promise) {
        int end = text.indexOf("\n## ", startOf(promise));
        return end < 0 ? text.length() : end;
    }

    private void quote(String words, int start, int end) {
        int found = 0;
        for (int at = text.indexOf(words, start); at >= 0 && at + words.length() <= end;
                at = text.indexOf(words, at + 1)) {
            Arrays.fill(quoted, at, at + words.length(), true);
            found++;
        }
        quotes++;
        Check.same("the document says \"" + words + "\"", found > 0, true);
    }

    private void looksAtLines() {
        boolean isCode = false;
        int start = 0;
        for (String line : text.split("\n", -1)) {
            if (line.equals("java")) {
                isCode = true;
            }
            if (!isCode && !line.startsWith("#")) {
                looksAtLine(line, start);
            }
            if (line.equals("}")) {
                isCode = false;
            }
            start += line.length() + 1;
        }
        Check.same("all is looked at", start, text.length() + 1);
    }

    private void looksAtLine(String line, int start) {
        int from = line.length() - line.replaceFirst(SIGNATURE, "").replaceFirst(THROWS, "").length();
        StringBuilder left = new StringBuilder();
        for (int i = from; i < line.length(); i++) {
            left.append(quoted[start + i] ? '|' : line.charAt(i));
        }
        for (String piece : left.toString().split("\\|+")) {
            boolean isSaid = piece.matches(".*\\w.*");
            for (String nothing : SAYS_NOTHING) {
                isSaid = isSaid && !piece.trim().startsWith(nothing);
            }
            Check.sameText("not quoted by any test, in \"" + line + "\"", isSaid ? piece : "", "");
        }
    }
}
