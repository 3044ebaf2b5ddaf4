import java.io.IOException;
import java.lang.reflect.Method;
import java.lang.reflect.Modifier;
import java.net.URL;
import java.net.URLClassLoader;
import java.nio.file.Files;
import java.nio.file.Path;
import java.util.ArrayList;
import java.util.List;
import java.util.Set;
import java.util.TreeSet;
import java.util.regex.Matcher;
import java.util.regex.Pattern;
import java.util.stream.Stream;

/** README.md: its examples answer what stands behind them, its texts load, it names what there is and nothing else. */
public final class ReadmeTest {
    private static final Path README = Path.of("README.md");
    private static final Path TESTS = Path.of("src/test/java");
    /** A row of an example that tells its answer: a declaration, and the answer at the start of the comment. */
    private static final Pattern ANSWER = Pattern.compile(" *int (\\w+) = .*;\\s+// (-?\\d+).*");

    public static void main(String[] args) throws Exception {
        examplesAnswerWhatTheySay();
        textsLoad();
        everyMethodIsNamed();
        everyTestIsNamed();
        Checks.end("ReadmeTest");
    }

    private static List<String> blocks(String kind) throws IOException {
        List<String> blocks = new ArrayList<>();
        Matcher matcher = Pattern.compile("(?s)```" + kind + "\n(.*?)```").matcher(Files.readString(README));
        while (matcher.find()) {
            blocks.add(matcher.group(1));
        }
        return blocks;
    }

    private static void examplesAnswerWhatTheySay() throws Exception {
        StringBuilder source = new StringBuilder("public final class ReadmeExample {\n"
            + "    public static java.util.List<String> answers() {\n"
            + "        java.util.List<String> answers = new java.util.ArrayList<>();\n");
        List<String> due = new ArrayList<>();
        for (String block : blocks("java")) {
            source.append("{\n");
            for (String row : block.split("\n")) {
                source.append(row).append('\n');
                Matcher matcher = ANSWER.matcher(row);
                if (matcher.matches()) {
                    due.add(matcher.group(1) + " is " + matcher.group(2));
                    source.append("answers.add(\"").append(matcher.group(1)).append(" is \" + ").append(matcher.group(1))
                        .append(");\n");
                }
            }
            source.append("}\n");
        }
        Checks.same("answers in the examples", due.size() > 20, true);
        Checks.sameText("the examples", answersOf(source.append("return answers;\n}\n}\n").toString()).toString(), due.toString());
    }

    private static List<?> answersOf(String source) throws Exception {
        Path folder = Files.createTempDirectory("readme");
        Path file = folder.resolve("ReadmeExample.java");
        Path made = folder.resolve("ReadmeExample.class");
        try {
            Files.writeString(file, source);
            Process compiler = new ProcessBuilder("javac", "--release", "17", "-cp", System.getProperty("java.class.path"), "-d",
                folder.toString(), file.toString()).inheritIO().start();
            Checks.same("the examples' compiler", compiler.waitFor(), 0);
            try (URLClassLoader loader = new URLClassLoader(new URL[] {folder.toUri().toURL()})) {
                return (List<?>) loader.loadClass("ReadmeExample").getMethod("answers").invoke(null);
            }
        } finally {
            Files.deleteIfExists(made);
            Files.deleteIfExists(file);
            Files.deleteIfExists(folder);
        }
    }

    private static void textsLoad() throws IOException {
        List<String> texts = blocks("text");
        Checks.same("texts", texts.isEmpty(), false);
        for (String text : texts) {
            ParetoDesk desk = new ParetoDesk();
            Checks.same("load() of a text of the page", Checks.load(desk, text) >= 0, true);
            Checks.same("errorCode() of it", desk.errorCode(), 0);
        }
    }

    private static void everyMethodIsNamed() throws IOException {
        Set<String> due = new TreeSet<>();
        for (Method method : ParetoDesk.class.getDeclaredMethods()) {
            if (Modifier.isPublic(method.getModifiers())) {
                due.add(method.getName());
            }
        }
        Set<String> named = new TreeSet<>();
        Matcher row = Pattern.compile("(?m)^\\| [^`\\n]* \\| ((?:`\\w+` )+)\\|$").matcher(Files.readString(README));
        while (row.find()) {
            named.addAll(List.of(row.group(1).replace("`", "").trim().split(" ")));
        }
        Checks.sameText("the methods that the page names", named.toString(), due.toString());
    }

    private static void everyTestIsNamed() throws IOException {
        Set<String> due = new TreeSet<>();
        try (Stream<Path> files = Files.list(TESTS)) {
            files.filter(file -> file.toString().endsWith("Test.java")).forEach(file -> due.add(file.getFileName().toString()));
        }
        Set<String> named = new TreeSet<>();
        Matcher row = Pattern.compile("(?m)^\\| `src/test/java/(\\w+\\.java)` \\|").matcher(Files.readString(README));
        while (row.find()) {
            named.add(row.group(1));
        }
        Checks.sameText("the tests that the page names", named.toString(), due.toString());
        Matcher path = Pattern.compile("`((?:src|\\.\\./shared|\\.ci)/[\\w./]+)`").matcher(Files.readString(README));
        while (path.find()) {
            Checks.same(path.group(1) + " is there", Files.exists(Path.of(path.group(1))), true);
        }
    }
}
