import java.io.IOException;
import java.nio.file.Files;
import java.nio.file.Path;
import java.util.List;
import java.util.stream.Stream;

/** All words of the sections and promises of the document are named by some test: each test that names some is run. */
public final class SentencesTest {
    private static final Path TESTS = Path.of("src/test/java");

    public static void main(String[] args) throws Exception {
        Checks.runTogether(true);
        List<String> names = testsThatName();
        for (String name : names) {
            Class.forName(name).getMethod("main", String[].class).invoke(null, (Object) new String[0]);
        }
        Checks.runTogether(false);
        Checks.same("tests that name sentences", names.size() >= 7, true);
        for (String part : Document.parts().keySet()) {
            if (!part.isEmpty() && !part.startsWith("## ")) {
                Checks.sameText("what no test names of " + part, Document.unnamed(part).toString(), "[]");
            }
        }
        Checks.same("parts of the document", Document.parts().size() > 65 + 6, true);
        Checks.end("SentencesTest");
    }

    private static List<String> testsThatName() throws IOException {
        try (Stream<Path> files = Files.list(TESTS)) {
            return files.map(file -> file.getFileName().toString()).filter(name -> name.endsWith("Test.java"))
                .filter(SentencesTest::namesSentences).map(name -> name.replace(".java", "")).sorted().toList();
        }
    }

    private static boolean namesSentences(String name) {
        try {
            return !name.startsWith("SentencesTest") && Files.readString(TESTS.resolve(name)).contains("Checks.sentence(");
        } catch (IOException e) {
            return true;
        }
    }
}
