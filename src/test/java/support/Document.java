import java.io.IOException;
import java.io.UncheckedIOException;
import java.nio.file.Files;
import java.nio.file.Path;
import java.util.Map;
import java.util.TreeMap;
import java.util.regex.Matcher;
import java.util.regex.Pattern;

/** The document by its parts ("Promise 12", "5. UNDO", "EXCEPTIONS"), so that a test can name what it looks at. */
final class Document {
    private static final Path PATH = Path.of("../shared/DOC.md");
    private static final Pattern HEADING = Pattern.compile("(?m)^(?:## )?(Promise \\d+|\\d\\. [A-Z ]+|EXCEPTIONS|## .+)");
    private static final Map<String, String> PARTS = new TreeMap<>();

    private Document() {
    }

    static boolean says(String part, String words) {
        return parts().getOrDefault(part, "").contains(words);
    }

    /** Each part's words, with one space between any two of them. */
    static Map<String, String> parts() {
        if (PARTS.isEmpty()) {
            String text = read();
            Matcher heading = HEADING.matcher(text);
            String name = "";
            int start = 0;
            while (heading.find()) {
                PARTS.put(name, text.substring(start, heading.start()).replaceAll("\\s+", " "));
                name = heading.group(1).trim();
                start = heading.start();
            }
            PARTS.put(name, text.substring(start).replaceAll("\\s+", " "));
        }
        return PARTS;
    }

    private static String read() {
        try {
            return Files.readString(PATH);
        } catch (IOException e) {
            throw new UncheckedIOException(e);
        }
    }
}
