import java.io.IOException;
import java.lang.reflect.Field;
import java.lang.reflect.Method;
import java.lang.reflect.Modifier;
import java.nio.file.DirectoryStream;
import java.nio.file.Files;
import java.nio.file.Path;
import java.util.ArrayList;
import java.util.List;
import java.util.Set;
import java.util.TreeSet;
import java.util.regex.Matcher;
import java.util.regex.Pattern;

/** README.md tells how to use the class and how to run its tests: what it tells is held against the class. */
public final class ReadmeTest {
    private static final Path README = Path.of("README.md");
    private static final Path DOCUMENT = Path.of("../shared/DOC.md");
    private static final Path TESTS = Path.of("src/test/java");
    private static final Pattern EXAMPLE = Pattern.compile("card\\.(\\w+)\\(([-\\d, ]*)\\);\\s+// (-?\\d+): .*");
    private static final Pattern CONSTANT = Pattern.compile("\\| `([A-Z]+)`\\s*\\| (-\\d+)\\s*\\|.*");
    private static final Pattern CALL = Pattern.compile("\\| `(\\w+\\([\\w, ]*\\))` \\|.*\\|([^|]*)\\|");
    private static final Pattern REFUSAL = Pattern.compile("\\b[A-Z]{2,}\\b");
    /** In the order in which they are asked; NONE is answered only where no refusal fits. */
    private static final List<String> REFUSALS = List.of("UNKNOWN", "OUTSIDE", "STATE", "FULL", "NO", "NONE");

    private ReadmeTest() {
    }

    public static void main(String[] args) throws Exception {
        Due due = new Due();
        List<String> lines = Files.readAllLines(README);
        example(due, lines);
        constants(due, lines);
        calls(due, lines);
        tests(due, String.join("\n", lines));
        due.end("ReadmeTest");
    }

    private static void example(Due due, List<String> lines) throws ReflectiveOperationException {
        int begin = lines.indexOf("```java");
        due.holds("README.md has an example that makes a card",
                begin >= 0 && lines.get(begin + 1).equals("HingeCards card = new HingeCards();"));
        HingeCards card = new HingeCards();
        for (int i = begin + 2; i < lines.size() && !lines.get(i).equals("```"); i++) {
            Matcher line = EXAMPLE.matcher(lines.get(i));
            due.holds("a call with its answer: " + lines.get(i), line.matches());
            if (line.matches()) due.is(lines.get(i), call(card, line.group(1), line.group(2)), Long.parseLong(line.group(3)));
        }
    }

    private static int call(HingeCards card, String name, String numbers) throws ReflectiveOperationException {
        String[] parts = numbers.isEmpty() ? new String[0] : numbers.split(", ");
        Class<?>[] types = new Class<?>[parts.length];
        Object[] values = new Object[parts.length];
        for (int i = 0; i < parts.length; i++) {
            types[i] = int.class;
            values[i] = Integer.valueOf(parts[i]);
        }
        return (Integer) HingeCards.class.getMethod(name, types).invoke(card, values);
    }

    private static void constants(Due due, List<String> lines) throws IllegalAccessException {
        Set<String> told = new TreeSet<>();
        for (String line : lines) {
            Matcher row = CONSTANT.matcher(line);
            if (row.matches()) told.add(row.group(1) + " " + row.group(2));
        }
        Set<String> has = new TreeSet<>();
        for (Field f : HingeCards.class.getFields()) has.add(f.getName() + " " + f.getInt(null));
        due.holds("constants " + has + ", told are " + told, told.equals(has));
    }

    private static void calls(Due due, List<String> lines) throws IOException {
        Set<String> told = new TreeSet<>();
        for (String line : lines) {
            Matcher row = CALL.matcher(line);
            if (!row.matches()) continue;
            String call = row.group(1);
            List<String> refusals = refusals(row.group(2));
            List<String> ordered = REFUSALS.stream().filter(refusals::contains).toList();
            due.holds(call + " is refused in order: " + refusals, refusals.equals(ordered));
            document(due, call, refusals);
            long parameters = call.endsWith("()") ? 0 : call.chars().filter(c -> c == ',').count() + 1;
            told.add(call.substring(0, call.indexOf('(')) + " " + parameters);
        }
        Set<String> has = new TreeSet<>();
        for (Method m : HingeCards.class.getDeclaredMethods()) {
            if (Modifier.isPublic(m.getModifiers())) has.add(m.getName() + " " + m.getParameterCount());
        }
        due.holds("calls " + has + ", told are " + told, told.equals(has));
    }

    /** The names of the numbers and the refusals are those of the document. */
    private static void document(Due due, String call, List<String> refusals) throws IOException {
        if (!Files.isReadable(DOCUMENT)) return;
        String start = "`int " + call.replaceAll("\\b(\\w+)(?=[,)])", "int $1") + "`: ";
        String promise = "";
        for (String line : Files.readAllLines(DOCUMENT)) if (line.startsWith(start)) promise = line.substring(start.length());
        due.holds("the document has " + start, !promise.isEmpty());
        due.holds(call + " is refused as the document tells", new TreeSet<>(refusals).equals(new TreeSet<>(refusals(promise))));
    }

    private static List<String> refusals(String text) {
        List<String> names = new ArrayList<>();
        Matcher word = REFUSAL.matcher(text);
        while (word.find()) if (REFUSALS.contains(word.group())) names.add(word.group());
        return names;
    }

    private static void tests(Due due, String readme) throws IOException {
        due.holds("README.md tells of .ci/run", readme.contains("\n    .ci/run\n") && Files.isExecutable(Path.of(".ci/run")));
        due.holds("README.md tells of ../shared/tests", readme.contains("../shared/tests"));
        try (DirectoryStream<Path> files = Files.newDirectoryStream(TESTS, "*Test.java")) {
            for (Path file : files) due.holds("README.md tells of " + file, readme.contains(file.getFileName().toString()));
        }
    }
}
