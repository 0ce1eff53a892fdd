import java.io.IOException;
import java.lang.reflect.Constructor;
import java.lang.reflect.Executable;
import java.lang.reflect.Field;
import java.lang.reflect.Method;
import java.lang.reflect.Modifier;
import java.nio.file.Files;
import java.nio.file.Path;
import java.util.Arrays;
import java.util.Map;
import java.util.TreeMap;
import java.util.TreeSet;
import java.util.regex.Pattern;

/** The public face of the document, and those rules of LANGUAGE.md that can be read from the source and the class. */
public final class LanguageTest {
    private static final Path DOCUMENT = Path.of("../shared/DOC.md");
    private static final String[] FACE = {
        "size 1", "put 3", "off 0", "why 3", "corner 2", "face 2", "on 2", "ways 0", "greatest 1", "two 0",
        "view 2", "above 3", "apart 3", "image 1", "restore 1", "count 1"};

    private LanguageTest() {
    }

    public static void main(String[] args) throws Exception {
        Due due = new Due();
        face(due);
        faceOfTheDocument(due);
        constants(due);
        insideClasses(due);
        words(due);
        due.end("LanguageTest");
    }

    private static void face(Due due) {
        due.holds("public and final", Modifier.isPublic(HingeCards.class.getModifiers())
                && Modifier.isFinal(HingeCards.class.getModifiers()));
        TreeSet<String> open = new TreeSet<>();
        TreeSet<String> hidden = new TreeSet<>();
        for (Method m : HingeCards.class.getDeclaredMethods()) {
            if (Modifier.isPrivate(m.getModifiers())) hidden.add(m.getName());
            else open.add(m.getName() + " " + m.getParameterCount());
            boolean isOfInts = m.getReturnType() == int.class
                    && Arrays.stream(m.getParameterTypes()).allMatch(t -> t == int.class);
            due.holds(m + " is of ints", Modifier.isPrivate(m.getModifiers()) || isOfInts);
        }
        due.holds("the methods " + open, open.equals(new TreeSet<>(Arrays.asList(FACE))));
        for (String name : FACE) due.holds(name + " is no private name", !hidden.contains(name.split(" ")[0]));
        Constructor<?>[] made = HingeCards.class.getDeclaredConstructors();
        due.holds("one public constructor", made.length == 1 && made[0].getParameterCount() == 0
                && Modifier.isPublic(made[0].getModifiers()));
    }

    /** Line by line, as the document writes it; names of parameters are held against it by ReadmeTest. */
    private static void faceOfTheDocument(Due due) throws IOException {
        if (!Files.isReadable(DOCUMENT)) return;
        TreeSet<String> told = new TreeSet<>();
        for (String line : Files.readString(DOCUMENT).split("```java\n|```\n")[1].split("\n")) {
            boolean isMethod = line.startsWith("    public") && !line.contains(" static ");
            if (isMethod) told.add(line.strip().replaceAll("int \\w+(?=[,)])", "int").replaceAll("[; ]", ""));
        }
        TreeSet<String> has = new TreeSet<>();
        Executable[] made = HingeCards.class.getConstructors();
        for (Executable e : made) has.add(written(e));
        for (Executable e : HingeCards.class.getDeclaredMethods()) {
            if (!Modifier.isPrivate(e.getModifiers())) has.add(written(e));
        }
        due.holds("the document's face " + told + ", the class's " + has, told.equals(has));
    }

    private static String written(Executable e) {
        return e.toString().replaceAll("HingeCards\\.", "").replaceAll(" ", "");
    }

    private static void constants(Due due) throws IllegalAccessException {
        Map<String, Integer> want = new TreeMap<>(
                Map.of("UNKNOWN", -1, "OUTSIDE", -2, "STATE", -3, "FULL", -4, "NO", -5, "NONE", -6));
        Map<String, Integer> got = new TreeMap<>();
        for (Field f : HingeCards.class.getDeclaredFields()) {
            if (Modifier.isStatic(f.getModifiers())) due.holds(f + " is final", Modifier.isFinal(f.getModifiers()));
            if (!Modifier.isPrivate(f.getModifiers())) got.put(f.getName(), f.getInt(null));
        }
        due.holds("the constants " + got, got.equals(want));
    }

    private static void insideClasses(Due due) {
        for (Class<?> inside : HingeCards.class.getDeclaredClasses()) {
            due.holds(inside + " is static", Modifier.isStatic(inside.getModifiers()));
            due.holds(inside + " is not public", !Modifier.isPublic(inside.getModifiers()));
            due.holds(inside + " has some twenty fields", inside.getDeclaredFields().length <= 20);
            for (Method m : inside.getDeclaredMethods()) {
                due.holds(m + " takes seven at most", m.getParameterCount() <= 7);
                for (String name : FACE) {
                    due.holds(m + " has a name of its own", !m.getName().equals(name.split(" ")[0]));
                }
            }
        }
    }

    private static void words(Due due) throws Exception {
        String source = Files.readString(Path.of("src/main/java/HingeCards.java"));
        String code = source.replaceAll("(?s)/\\*.*?\\*/", "").replaceAll("//[^\n]*", "");
        String[] banned = {"throw", "throws", "try", "catch", "synchronized", "assert", "package", "equals",
            "hashCode", "toString", "System", "Random", "Thread", "float", "double", "Object", "Exception"};
        for (String word : banned) {
            due.holds("no " + word, !Pattern.compile("\\b" + word + "\\b").matcher(code).find());
        }
        for (String sign : new String[] {"->", "::", "Exact(", "while", "\"", "@"}) {
            due.holds("no " + sign, !code.contains(sign));
        }
        String imports = code.lines().filter(l -> l.startsWith("import")).reduce("", String::concat);
        due.holds("imports " + imports, imports.equals("import java.util.Arrays;"));
        due.holds("signs 1 to 127", source.chars().allMatch(c -> c > 0 && c < 128));
    }
}
