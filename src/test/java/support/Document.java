import java.io.IOException;
import java.io.UncheckedIOException;
import java.nio.file.Files;
import java.nio.file.Path;
import java.util.ArrayList;
import java.util.BitSet;
import java.util.List;
import java.util.Map;
import java.util.TreeMap;
import java.util.regex.Matcher;
import java.util.regex.Pattern;

/** The document by its parts ("Promise 12", "5. UNDO", "EXCEPTIONS"), so that a test can name what it looks at. */
final class Document {
    private static final Path PATH = Path.of("../shared/DOC.md");
    private static final Pattern HEADING = Pattern.compile("(?m)^(?:## )?(Promise \\d+|\\d\\. [A-Z ]+|EXCEPTIONS|## .+)");
    /** Headings, the lines of the face (FaceTest looks at these), marks of lists and words that stand ahead of a list. */
    private static final Pattern FRAME = Pattern.compile("^## Promise \\d+: [\\w ]+? (?=`)|^\\d\\. [A-Z ]+\\.|^EXCEPTIONS\\."
        + "|`[A-Za-z ]+\\([\\w ,]*\\)( throws [A-Za-z, ]+)?`:|```(text)?|\\b(Tokens|Codes):| - (?=`)");
    private static final Map<String, String> PARTS = new TreeMap<>();
    private static final Map<String, List<String>> NAMED = new TreeMap<>();

    private Document() {
    }

    static boolean says(String part, String words) {
        return parts().getOrDefault(part, "").contains(words);
    }

    static void name(String part, String words) {
        NAMED.computeIfAbsent(part, none -> new ArrayList<>()).add(words);
    }

    /** The words of a part that no test has named so far. */
    static List<String> unnamed(String part) {
        String text = parts().get(part);
        BitSet named = new BitSet(text.length());
        Matcher frame = FRAME.matcher(text);
        while (frame.find()) {
            named.set(frame.start(), frame.end());
        }
        for (String words : NAMED.getOrDefault(part, List.of())) {
            for (int at = text.indexOf(words); at >= 0; at = text.indexOf(words, at + 1)) {
                named.set(at, at + words.length());
            }
        }
        List<String> left = new ArrayList<>();
        for (int start = named.nextClearBit(0); start < text.length(); ) {
            int end = named.nextSetBit(start);
            String words = text.substring(start, end < 0 ? text.length() : end).trim();
            if (words.matches(".*\\w.*")) {
                left.add(words);
            }
            start = end < 0 ? text.length() : named.nextClearBit(end);
        }
        return left;
    }

    /** Each part's words, with one space between any two of them. */
    static Map<String, String> parts() {
        if (PARTS.isEmpty()) {
            String text = read();
            Matcher heading = HEADING.matcher(text);
            String name = "";
            int start = 0;
            while (heading.find()) {
                PARTS.put(name, text.substring(start, heading.start()).replaceAll("\\s+", " "));
                name = heading.group(1).trim();
                start = heading.start();
            }
            PARTS.put(name, text.substring(start).replaceAll("\\s+", " "));
        }
        return PARTS;
    }

    private static String read() {
        try {
            return Files.readString(PATH);
        } catch (IOException e) {
            throw new UncheckedIOException(e);
        }
    }
}
