import java.io.IOException;
import java.nio.file.DirectoryStream;
import java.nio.file.Files;
import java.nio.file.Path;
import java.util.regex.Matcher;
import java.util.regex.Pattern;

/** No sentence of "Terms" or of a promise is without a test: each word of them stands in the words of some says(). */
public final class WholeTest {
    private static final Path DOCUMENT = Path.of("../shared/DOC.md");
    private static final Path TESTS = Path.of("src/test/java");
    private static final String TEXT = "\"(?:[^\"\\\\]|\\\\.)*\"";
    private static final Pattern SAYS = Pattern.compile(
            "says\\(\\s*(" + TEXT + "),\\s*(" + TEXT + "(?:\\s*\\+\\s*" + TEXT + ")*)");
    // What tells nothing by itself: headings with the calls' faces, names of parts, fences.
    private static final Pattern FRAME = Pattern.compile(
            "## Promise \\d+: [^`]*`[^`]*`:|## Terms I\\. TERMS:|IN FULL\\.|The constants:|```(text)?");

    public static void main(String[] args) throws IOException {
        String whole = Files.readString(DOCUMENT).replaceAll("\\s+", " ");
        int from = whole.indexOf("## Terms");
        int to = whole.indexOf("## Not promised");
        if (from < 0 || to < from) {
            System.out.println("the document has no Terms, or no end");
            System.exit(1);
        }
        StringBuilder left = new StringBuilder(whole.substring(from, to));
        blank(left, FRAME);
        int said = blankAllSaid(whole.substring(from, to), left);
        int untested = 0;
        for (String words : left.toString().split("\u0000")) {
            if (words.matches("(?s).*[A-Za-z0-9].*")) {
                untested++;
                System.out.println("without a test: " + words.strip());
            }
        }
        System.out.println(said + " sentences are tested, " + untested + " are not");
        if (untested != 0) {
            System.exit(1);
        }
    }

    private static void blank(StringBuilder left, Pattern what) {
        Matcher m = what.matcher(left.toString());
        while (m.find()) {
            blank(left, m.start(), m.end());
        }
    }

    private static void blank(StringBuilder left, int from, int to) {
        for (int i = from; i < to; i++) {
            left.setCharAt(i, '\u0000');
        }
    }

    private static int blankAllSaid(String text, StringBuilder left) throws IOException {
        int said = 0;
        try (DirectoryStream<Path> sources = Files.newDirectoryStream(TESTS, "*Test.java")) {
            for (Path source : sources) {
                Matcher m = SAYS.matcher(Files.readString(source));
                while (m.find()) {
                    String part = unquoted(m.group(1));
                    String words = unquoted(m.group(2));
                    // Edges looks whether the part has these words; here they are looked for behind its begin.
                    int at = text.indexOf(words, beginOf(part, text));
                    if (at >= 0) {
                        said++;
                        blank(left, at, at + words.length());
                    }
                }
            }
        }
        return said;
    }

    private static int beginOf(String part, String text) {
        String heading = switch (part) {
            case "I." -> "I. TERMS:";
            case "II." -> "II. A STREAM";
            case "IN FULL" -> "IN FULL.";
            case "Constants" -> "The constants:";
            default -> "## " + part + ":";
        };
        return Math.max(0, text.indexOf(heading));
    }

    private static String unquoted(String literals) {
        StringBuilder words = new StringBuilder();
        Matcher m = Pattern.compile(TEXT).matcher(literals);
        while (m.find()) {
            words.append(m.group(), 1, m.group().length() - 1);
        }
        return words.toString().replace("\\\"", "\"");
    }
}
