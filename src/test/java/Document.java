import java.io.IOException;
import java.nio.file.Files;
import java.nio.file.Path;
import java.util.ArrayList;
import java.util.List;
import java.util.regex.Matcher;
import java.util.regex.Pattern;

/** The document, read as text. */
final class Document {
    private static final Path PATH = Path.of("..", "shared", "DOC.md");
    private static final Pattern CODE = Pattern.compile("```java\\n(.*?)```\\n", Pattern.DOTALL);

    private Document() {
    }

    /** All words between the headings, in one line and without markup; the code of the public face is left out. */
    static String words() throws IOException {
        return CODE.matcher(Files.readString(PATH)).replaceAll("")
            .replaceAll("(?m)^#.*$", "")
            .replaceAll("(?m)^(- |\\d+\\. )", "")
            .replaceAll("[`]|\\*\\*", "")
            .replaceAll("\\s+", " ")
            .trim();
    }

    /** The lines of the public face. */
    static List<String> face() throws IOException {
        Matcher code = CODE.matcher(Files.readString(PATH));
        List<String> lines = new ArrayList<>();
        while (code.find()) {
            code.group(1).lines().map(String::strip).filter(line -> !line.isEmpty()).forEach(lines::add);
        }
        return lines;
    }
}
