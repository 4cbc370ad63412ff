import java.io.IOException;
import java.nio.file.Files;
import java.nio.file.Path;
import java.util.ArrayList;
import java.util.Arrays;
import java.util.List;
import java.util.regex.Matcher;
import java.util.regex.Pattern;
import java.util.stream.Stream;

/** That no sentence of the document is left without a test which quotes it, from its first line to promise 40. */
public final class QuotesTest {
    private static final Path TESTS = Path.of("src/test/java");
    private static final Pattern QUOTE = Pattern.compile("says\\(((?:\\s*\"(?:[^\"\\\\]|\\\\.)*\"\\s*\\+?)+)\\)");
    private static final Pattern TEXT = Pattern.compile("\"((?:[^\"\\\\]|\\\\.)*)\"");
    // The face is FaceTest's; headings, marks of code, the heads of the promises and of the terms say nothing by themselves.
    private static final String[] HEADS = {"```java.*?```", "```(text)?", "## Promise \\d+: (A new object|\\w+)", "## [A-Z][a-z ]+(?= [A-Z`I])",
        "# PeeledHash", "`(int|long) \\w+\\([\\w, ]*\\)`:", "(?<= )(I|II|III|IV)\\.(?= )", "A builder of hashes without a clash:"};
    private static final int PROMISES = 40;

    public static void main(String[] args) throws IOException {
        Checks checks = new Checks();
        String document = Checks.documentOnOneLine();
        if (!document.isEmpty()) {
            int end = document.indexOf("## Not promised");
            checks.due("the document ends with what is not promised", end > 0 ? 1 : 0, 1);
            String promised = document.substring(0, Math.max(end, 0));
            for (int n = 1; n <= PROMISES; n++) {
                checks.due("promise " + n + " is in the document", promised.contains("## Promise " + n + ": ") ? 1 : 0, 1);
            }
            for (String left : unquoted(promised)) {
                checks.due("no test quotes \"" + left + "\": it", 1, 0);
            }
        }
        checks.finish("QuotesTest");
    }

    private static List<String> unquoted(String document) throws IOException {
        boolean[] quoted = new boolean[document.length()];
        for (String head : HEADS) {
            Matcher matcher = Pattern.compile(head).matcher(document);
            while (matcher.find()) {
                Arrays.fill(quoted, matcher.start(), matcher.end(), true);
            }
        }
        for (String quote : quotes()) {
            for (int at = document.indexOf(quote); at >= 0; at = document.indexOf(quote, at + 1)) {
                Arrays.fill(quoted, at, at + quote.length(), true);
            }
        }
        List<String> left = new ArrayList<>();
        int start = 0;
        for (int at = 0; at <= quoted.length; at++) {
            if (at == quoted.length || quoted[at]) {
                String words = document.substring(start, at);
                if (words.chars().anyMatch(Character::isLetterOrDigit)) {
                    left.add(words.trim());
                }
                start = at + 1;
            }
        }
        return left;
    }

    private static List<String> quotes() throws IOException {
        List<String> quotes = new ArrayList<>();
        try (Stream<Path> files = Files.list(TESTS)) {
            for (Path file : files.filter(one -> one.toString().endsWith("Test.java")).toList()) {
                Matcher says = QUOTE.matcher(Files.readString(file));
                while (says.find()) {
                    StringBuilder quote = new StringBuilder();
                    Matcher text = TEXT.matcher(says.group(1));
                    while (text.find()) {
                        quote.append(text.group(1).replace("\\\"", "\""));
                    }
                    quotes.add(quote.toString());
                }
            }
        }
        return quotes;
    }
}
