import java.io.IOException;
import java.nio.file.Files;
import java.nio.file.Path;
import java.util.LinkedHashMap;
import java.util.List;
import java.util.Map;
import java.util.regex.Pattern;

/** The document part by part, and what of each part no test has claimed yet. */
final class Document {
    private final Map<String, String> whole = new LinkedHashMap<>();
    private final Map<String, String> left = new LinkedHashMap<>();

    /** A part is a chapter, "Promise 3"; in the terms a paragraph with a title of its own is one, "Terms, Undo". */
    Document() {
        String chapter = "";
        for (String line : lines()) {
            if (line.startsWith("#")) {
                chapter = line.replaceFirst("^#+ ", "").replaceFirst(":.*", "");
            } else {
                boolean titled = chapter.equals("Terms") && line.matches("[A-Z][a-z]+\\. .*");
                String part = titled ? chapter + ", " + line.replaceFirst("\\..*", "") : chapter;
                // A promise's head, "`int begin(..)`: ", is FaceTest's.
                whole.merge(part, line.replaceFirst("^`[^`]*`: ", "") + "\n", String::concat);
            }
        }
        left.putAll(whole);
    }

    /** Without the document the edges are tested all the same, but not that no sentence is left over. */
    private static List<String> lines() {
        try {
            return Files.readAllLines(Path.of("..", "shared", "DOC.md"));
        } catch (IOException unread) {
            System.out.println("../shared/DOC.md can't be read: the tests' sentences are not compared with it");
            return List.of();
        }
    }

    Iterable<String> parts() {
        return whole.keySet();
    }

    /** Answers whether the sentence stands in the part. */
    boolean claim(String part, String sentence) {
        left.computeIfPresent(part, (key, text) -> text.replaceFirst(Pattern.quote(sentence), " "));
        return whole.isEmpty() || whole.getOrDefault(part, "").contains(sentence);
    }

    String unclaimed(String part) {
        return left.get(part).strip().replaceAll("\\s+", " ");
    }
}
