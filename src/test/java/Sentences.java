import java.io.IOException;
import java.nio.file.Files;
import java.nio.file.Path;
import java.util.ArrayList;
import java.util.List;

/**
 * The document, sentence by sentence: one that names a boundary case brings its test, and at the end of
 * each part no word may be left that belongs to no sentence.
 */
final class Sentences {
    private static final Path DOCUMENT = Path.of("../shared/DOC.md");

    private final Due due;
    private final List<String> lines;
    private String heading = "";
    /** What no sentence has told yet. */
    private String left = "";

    Sentences(Due due) throws IOException {
        this.due = due;
        boolean isThere = Files.isReadable(DOCUMENT);
        if (!isThere) System.out.println("no " + DOCUMENT + ": the sentences are not held against it");
        this.lines = isThere ? Files.readAllLines(DOCUMENT) : null;
    }

    /** The part under a heading: from here on its sentences are told. */
    void part(String newHeading) {
        end();
        heading = newHeading;
        if (lines == null) return;
        int at = lines.indexOf(newHeading);
        due.holds("the document has " + newHeading, at >= 0);
        if (at < 0) return;
        List<String> text = new ArrayList<>();
        for (int i = at + 1; i < lines.size() && !lines.get(i).startsWith("## "); i++) {
            String line = lines.get(i).replaceFirst("^=+ \\d ", "").replaceFirst("^`int [^`]*`: ", "");
            boolean isFrame = line.startsWith("```") || line.startsWith("Ahead of the calls");
            if (!isFrame) text.add(line);
        }
        left = plain(String.join(" ", text));
    }

    /** No part of the document may be left out, from its first to its last. */
    void partsAre(List<String> headings) {
        if (lines == null) return;
        List<String> has = lines.stream().filter(line -> line.startsWith("## ")).toList();
        due.holds("the document has the parts " + has, has.equals(headings));
    }

    /** A sentence that names a boundary case. */
    void names(String sentence, Runnable test) {
        tell(sentence);
        int before = due.asked();
        test.run();
        due.holds("has a test of its own: " + sentence, due.asked() > before);
    }

    /** A sentence that names none. */
    void tell(String sentence) {
        if (lines == null) return;
        int at = left.indexOf(plain(sentence));
        due.holds(heading + " has: " + sentence, at >= 0);
        if (at >= 0) left = left.substring(0, at) + " " + left.substring(at + plain(sentence).length());
    }

    void end() {
        due.holds(heading + " leaves untold: " + plain(left), plain(left).isEmpty());
        left = "";
    }

    private static String plain(String text) {
        return text.replaceAll("\\s+", " ").strip();
    }
}
