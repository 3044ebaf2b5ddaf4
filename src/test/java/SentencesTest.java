import java.io.IOException;
import java.nio.file.Files;
import java.nio.file.Path;
import java.util.List;
import java.util.Set;
import java.util.TreeSet;
import java.util.regex.Matcher;
import java.util.regex.Pattern;
import java.util.stream.Stream;

/** Each promise and each section of the document has a test that names a sentence of it. */
public final class SentencesTest {
    private static final Path TESTS = Path.of("src/test/java");
    private static final Pattern NAMED = Pattern.compile("Checks\\.sentence\\(\"([^\"]+)\"");

    public static void main(String[] args) throws IOException {
        Set<String> named = new TreeSet<>();
        for (Path test : tests()) {
            Matcher matcher = NAMED.matcher(Files.readString(test));
            while (matcher.find()) {
                named.add(matcher.group(1));
            }
        }
        for (String part : Document.parts().keySet()) {
            if (!part.isEmpty() && !part.startsWith("## ")) {
                Checks.same("a test names a sentence of " + part, named.contains(part), true);
            }
        }
        Checks.same("parts of the document", Document.parts().size() > 65 + 6, true);
        Checks.end("SentencesTest");
    }

    private static List<Path> tests() throws IOException {
        try (Stream<Path> files = Files.list(TESTS)) {
            return files.filter(file -> file.toString().endsWith("Test.java")).sorted().toList();
        }
    }
}
