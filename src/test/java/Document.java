import java.io.IOException;
import java.io.UncheckedIOException;
import java.nio.charset.StandardCharsets;
import java.nio.file.Files;
import java.nio.file.Path;
import java.util.ArrayList;
import java.util.List;

/** The document's own words: its public face, those of "Terms" and those of each promise. */
final class Document {
    static final int TERMS = 0;
    static final int PROMISES = 41;
    private static final Path FILE = Path.of("..", "shared", "DOC.md");

    private Document() {
    }

    /** The words of a promise, or of "Terms", in their order. */
    static List<String> words(int number) {
        return wordsOf(number == TERMS ? terms(text()) : promise(text(), number));
    }

    /** Words without the signs that stand between sentences. */
    static List<String> wordsOf(String text) {
        List<String> words = new ArrayList<>();
        for (String one : text.trim().split("\\s+")) {
            String word = one.replaceAll("^[(.,;:]+|[).,;:]+$", "");
            if (!word.isEmpty()) {
                words.add(word);
            }
        }
        return words;
    }

    /** The lines of the public face, as they must stand. */
    static List<String> face() {
        List<String> lines = new ArrayList<>();
        for (String line : between(text(), "```java\n", "```").split("\n")) {
            if (line.startsWith("    public ")) {
                lines.add(line.trim());
            }
        }
        return lines;
    }

    private static String text() {
        try {
            return Files.readString(FILE, StandardCharsets.UTF_8);
        } catch (IOException e) {
            throw new UncheckedIOException(e);
        }
    }

    private static String terms(String text) {
        return between(text, "## Terms\n", "Ahead of the calls ").replaceAll("```(text)?|==== [IVX]+\\.", " ");
    }

    /** A promise's paragraph has its method's head first, in backquotes. */
    private static String promise(String text, int number) {
        String section = between(text, "## Promise " + number + ": ", "\n## ");
        return section.substring(section.indexOf("`: ") + 3);
    }

    private static String between(String text, String from, String to) {
        int start = text.indexOf(from);
        int end = text.indexOf(to, start + from.length());
        if (start < 0 || end < 0) {
            throw new IllegalStateException("the document has no " + from.trim());
        }
        return text.substring(start + from.length(), end);
    }
}
