import java.io.IOException;
import java.nio.file.DirectoryStream;
import java.nio.file.Files;
import java.nio.file.Path;
import java.util.ArrayList;
import java.util.List;
import java.util.regex.Matcher;
import java.util.regex.Pattern;

/** Every sentence of the document has a test that quotes it, and every quote is word for word. */
public final class DocumentTest {
    private static final Path TESTS = Path.of("src", "test", "java");

    private static final Pattern QUOTE = Pattern.compile("Check\\.says\\(\\s*((?:\"[^\"]*\"\\s*\\+?\\s*)+)");
    private static final Pattern LITERAL = Pattern.compile("\"([^\"]*)\"");

    /** What no answer can show, so that no test quotes it. */
    private static final List<String> UNSEEN = List.of(
        // Each of these tests answers -1, whichever comes first.
        "Tests in order,",
        // 16 nodes and 32 choices give at most 27 cells.
        "Emitting a cell when 32 cells exist,",
        // What is left free.
        "How nodes, instructions, sequences, the value and the cursor are stored inside is free.",
        "whether they are stored is free.",
        "Whether any work beyond what is described (for example evaluating a candidate in several steps) is done is "
            + "free, as long as every answer and every readable field is as described.");

    public static void main(String[] args) throws IOException {
        String document = Document.words();
        List<String> quotes = quotes();
        everyQuoteIsWordForWord(document, quotes);
        everySentenceIsQuoted(document, quotes);
        Check.end("DocumentTest");
    }

    private static List<String> quotes() throws IOException {
        List<String> quotes = new ArrayList<>(UNSEEN);
        try (DirectoryStream<Path> tests = Files.newDirectoryStream(TESTS, "*Test.java")) {
            for (Path test : tests) {
                Matcher said = QUOTE.matcher(Files.readString(test));
                while (said.find()) {
                    quotes.add(joined(said.group(1)));
                }
            }
        }
        return quotes;
    }

    private static String joined(String literals) {
        StringBuilder quote = new StringBuilder();
        Matcher literal = LITERAL.matcher(literals);
        while (literal.find()) {
            quote.append(literal.group(1));
        }
        return quote.toString();
    }

    private static void everyQuoteIsWordForWord(String document, List<String> quotes) {
        for (String quote : quotes) {
            Check.due("in the document: " + quote, 1, document.contains(quote) ? 1 : 0);
        }
    }

    /** Between the quotes nothing is left but signs. */
    private static void everySentenceIsQuoted(String document, List<String> quotes) {
        boolean[] quoted = new boolean[document.length()];
        for (String quote : quotes) {
            for (int at = document.indexOf(quote); at >= 0; at = document.indexOf(quote, at + 1)) {
                for (int letter = at; letter < at + quote.length(); letter++) {
                    quoted[letter] = true;
                }
            }
        }
        StringBuilder left = new StringBuilder();
        for (int at = 0; at < quoted.length; at++) {
            left.append(quoted[at] ? '\n' : document.charAt(at));
        }
        left.toString().lines().filter(stretch -> !stretch.isEmpty()).forEach(stretch ->
            Check.due("words that no test quotes in \"" + stretch + "\"", 0, stretch.matches(".*\\w.*") ? 1 : 0));
    }
}
