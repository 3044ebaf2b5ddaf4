import java.io.IOException;
import java.lang.reflect.Constructor;
import java.lang.reflect.Field;
import java.lang.reflect.Method;
import java.lang.reflect.Modifier;
import java.nio.file.Files;
import java.nio.file.Path;
import java.util.Arrays;
import java.util.List;
import java.util.Map;
import java.util.Set;
import java.util.TreeMap;
import java.util.TreeSet;
import java.util.regex.Matcher;
import java.util.regex.Pattern;

/** The public face as the document tells it, and what of LANGUAGE.md reflection and the source can show. */
public final class FaceTest {
    private static final Path DOCUMENT = Path.of("../shared/DOC.md");
    private static final Path SOURCE = Path.of("src/main/java/ParetoDesk.java");

    public static void main(String[] args) throws IOException {
        faceIsThatOfTheDocument();
        nothingElseIsVisible();
        noPrivateMethodBearsAPublicName();
        classesAreSmall();
        methodsAreShort();
        callsGoAtMostEightDeep();
        onlyTheListedLibrary();
        wordsThatTheLanguageLeavesOut();
        Checks.end("FaceTest");
    }

    private static void faceIsThatOfTheDocument() throws IOException {
        Set<String> due = new TreeSet<>();
        Pattern line = Pattern.compile("    public (int|void|boolean|double) (\\w+)\\((.*)\\)( throws (.*))?;");
        for (String told : Files.readAllLines(DOCUMENT)) {
            Matcher matcher = line.matcher(told);
            if (matcher.matches()) {
                String kinds = matcher.group(3).replaceAll("(int|boolean) \\w+", "$1");
                String thrown = matcher.group(5) == null ? "" : matcher.group(5);
                due.add(matcher.group(1) + " " + matcher.group(2) + "(" + kinds + ") " + thrown);
            }
        }
        Set<String> made = new TreeSet<>();
        for (Method method : ParetoDesk.class.getDeclaredMethods()) {
            if (Modifier.isPublic(method.getModifiers())) {
                made.add(method.getReturnType() + " " + method.getName() + "(" + names(method.getParameterTypes()) + ") "
                    + names(method.getExceptionTypes()));
            }
        }
        Checks.same("methods of the face", due.size(), 64);
        Checks.sameText("the face", made.toString(), due.toString());
        Checks.same("the class is final", Modifier.isFinal(ParetoDesk.class.getModifiers()), true);
        Constructor<?>[] constructors = ParetoDesk.class.getDeclaredConstructors();
        Checks.same("constructors", constructors.length, 1);
        Checks.same("a constructor without parameters", constructors[0].getParameterCount(), 0);
    }

    private static String names(Class<?>[] kinds) {
        return String.join(", ", Arrays.stream(kinds).map(Class::getSimpleName).toList());
    }

    private static void nothingElseIsVisible() {
        Set<String> visible = new TreeSet<>();
        for (Field field : ParetoDesk.class.getDeclaredFields()) {
            if (!Modifier.isPrivate(field.getModifiers())) {
                visible.add(field.getName());
            }
        }
        Checks.sameText("visible fields", visible.toString(), "[NONE, PARSE_ERROR]");
        for (Method method : ParetoDesk.class.getDeclaredMethods()) {
            boolean kept = Modifier.isPublic(method.getModifiers()) || Modifier.isPrivate(method.getModifiers());
            Checks.same(method.getName() + " is public or private", kept, true);
        }
        for (Class<?> inside : ParetoDesk.class.getDeclaredClasses()) {
            Checks.same(inside.getName() + " is private and static",
                Modifier.isPrivate(inside.getModifiers()) && Modifier.isStatic(inside.getModifiers()), true);
        }
    }

    private static void noPrivateMethodBearsAPublicName() {
        Set<String> names = new TreeSet<>();
        for (Method method : ParetoDesk.class.getDeclaredMethods()) {
            if (Modifier.isPublic(method.getModifiers())) {
                names.add(method.getName());
            }
        }
        for (Method method : ParetoDesk.class.getDeclaredMethods()) {
            if (!Modifier.isPublic(method.getModifiers())) {
                Checks.same(method.getName() + " is a name of the face", names.contains(method.getName()), false);
            }
        }
        for (Class<?> inside : ParetoDesk.class.getDeclaredClasses()) {
            for (Method method : inside.getDeclaredMethods()) {
                Checks.same(inside + "." + method.getName() + " is a name of the face",
                    names.contains(method.getName()), false);
            }
        }
    }

    private static void classesAreSmall() {
        List<Class<?>> classes = new java.util.ArrayList<>(List.of(ParetoDesk.class.getDeclaredClasses()));
        classes.add(ParetoDesk.class);
        Checks.same("at most twelve classes", classes.size() <= 12, true);
        for (Class<?> one : classes) {
            int fields = 0;
            for (Field field : one.getDeclaredFields()) {
                boolean fixed = Modifier.isStatic(field.getModifiers());
                fields += fixed ? 0 : 1;
                Checks.same(field + " is no static state", !fixed || Modifier.isFinal(field.getModifiers()), true);
            }
            Checks.same(one + " has at most twenty fields", fields <= 20, true);
            for (Method method : one.getDeclaredMethods()) {
                Checks.same(method + " has at most seven parameters", method.getParameterCount() <= 7, true);
            }
        }
    }

    private static void methodsAreShort() throws IOException {
        List<String> lines = Files.readAllLines(SOURCE);
        Pattern head = Pattern.compile("( {4}| {8})\\w[^=]*\\(.*\\{");
        int methods = 0;
        for (int i = 0; i < lines.size(); i++) {
            Checks.same("the width of line " + (i + 1), lines.get(i).length() <= 120, true);
            Matcher matcher = head.matcher(lines.get(i));
            if (matcher.matches()) {
                methods++;
                int length = lines.subList(i, lines.size()).indexOf(matcher.group(1) + "}") + 1;
                Checks.same(lines.get(i).trim() + " is short", length > 0 && length <= 60, true);
            }
        }
        Checks.same("methods are found", methods > 100, true);
    }

    /** Methods of the same name count as one, so that what is found is never less than what there is. */
    private static void callsGoAtMostEightDeep() throws IOException {
        List<String> lines = Files.readAllLines(SOURCE);
        Pattern head = Pattern.compile("( {4}| {8})\\w[^=;]*?(\\w+)\\(.*\\{");
        Map<String, Set<String>> calls = new TreeMap<>();
        for (int i = 0; i < lines.size(); i++) {
            Matcher matcher = head.matcher(lines.get(i));
            if (matcher.matches()) {
                int length = lines.subList(i, lines.size()).indexOf(matcher.group(1) + "}");
                String body = String.join("\n", lines.subList(i + 1, i + length)).replaceAll("//.*|\"[^\"]*\"|new \\w+\\(", "");
                Matcher call = Pattern.compile("\\b(?!(?:if|for|while|switch)\\b)(\\w+) ?\\(").matcher(body);
                while (call.find()) {
                    calls.computeIfAbsent(matcher.group(2), none -> new TreeSet<>()).add(call.group(1));
                }
            }
        }
        Checks.same("methods that call others", calls.size() > 90, true);
        for (String name : calls.keySet()) {
            Checks.same(name + " calls at most eight deep", depth(name, calls, 0) <= 8, true);
        }
        Checks.same("point() calls some deep", depth("point", calls, 0) >= 5, true);
    }

    private static int depth(String name, Map<String, Set<String>> calls, int above) {
        int deepest = 0;
        // A method that comes to itself again shows as one that is far too deep.
        for (String called : above > 20 ? Set.<String>of() : calls.getOrDefault(name, Set.of())) {
            deepest = Math.max(deepest, depth(called, calls, above + 1));
        }
        return 1 + deepest;
    }

    private static void onlyTheListedLibrary() throws IOException {
        String source = Files.readString(SOURCE).replaceAll("(?s)/\\*.*?\\*/|//[^\n]*", "").replaceAll("\"[^\"]*\"", "T");
        Set<String> used = new TreeSet<>();
        Matcher matcher = Pattern.compile("\\b([A-Z]\\w*|word)\\.(\\w+)\\(").matcher(source);
        while (matcher.find()) {
            used.add(matcher.group(1) + "." + matcher.group(2));
        }
        Checks.sameText("calls of the library", used.toString(), "[Arrays.fill, Integer.bitCount, Math.max, Math.min, System.arraycopy,"
            + " word.charAt, word.length]");
    }

    private static void wordsThatTheLanguageLeavesOut() throws IOException {
        String source = Files.readString(SOURCE).replaceAll("(?s)/\\*.*?\\*/|//[^\n]*", "").replaceAll("\"[^\"]*\"", "T");
        for (String word : new String[] {"try", "catch", "finally", "synchronized", "assert", "equals", "hashCode",
            "toString", "package", "protected", "var", "float", "instanceof", "Random", "System.out", "nanoTime",
            "currentTimeMillis", "Thread"}) {
            Checks.same("the source has " + word, Pattern.compile("\\b" + word + "\\b").matcher(source).find(), false);
        }
        for (String sign : new String[] {"->", "::", "@", "Exact(", "T +", "+ T"}) {
            Checks.same("the source has " + sign, source.contains(sign), false);
        }
        Matcher made = Pattern.compile("throw new (\\w+)").matcher(source);
        List<String> named = List.of("IllegalStateException", "IllegalArgumentException", "IndexOutOfBoundsException",
            "NoSuchElementException");
        while (made.find()) {
            Checks.same("throws " + made.group(1), named.contains(made.group(1)), true);
        }
        Matcher imported = Pattern.compile("import ([\\w.]+);").matcher(source);
        while (imported.find()) {
            Checks.same("imports " + imported.group(1),
                List.of("java.util.Arrays", "java.util.NoSuchElementException").contains(imported.group(1)), true);
        }
    }
}
