import java.io.IOException;
import java.io.UncheckedIOException;
import java.nio.file.Files;
import java.nio.file.Path;
import java.util.HashMap;
import java.util.Map;

/**
 * The document, section by section. A test quotes the words that it holds, and they are struck out: words that the
 * document does not say are a fault, and so is what is left of a section at the end, since no test holds it.
 */
final class Doc {
    private static final Path FILE = Path.of("../shared/DOC.md");
    private static final Map<String, String> LEFT = sections();

    private Doc() {
    }

    static void promise(int number, String words) {
        strike("Promise " + number, words);
    }

    static void terms(String words) {
        strike("Terms", words);
    }

    static void whatItIs(String words) {
        strike("What it is", words);
    }

    static void promisesAreHeld(int from, int to) {
        for (int number = from; number <= to; number++) {
            isHeld("Promise " + number);
        }
    }

    static void termsAreHeld() {
        isHeld("Terms");
    }

    private static void strike(String section, String words) {
        if (LEFT.isEmpty()) {
            return;
        }
        String left = LEFT.getOrDefault(section, "");
        int from = left.indexOf(words);
        Check.isTrue("the document says in '" + section + "', and no test before: " + words, from >= 0);
        if (from >= 0) {
            LEFT.put(section, left.substring(0, from) + "|" + left.substring(from + words.length()));
        }
    }

    private static void isHeld(String section) {
        if (LEFT.isEmpty()) {
            System.out.println("no document here: what is quoted is not held against '" + section + "'");
            return;
        }
        String left = LEFT.getOrDefault(section, "no such section");
        Check.isTrue("each word of '" + section + "' is held by a test, but: " + left, left.matches("[\\s|.;:,]*"));
    }

    /** None where the document is not at hand: the calls that a test makes are due all the same. */
    private static Map<String, String> sections() {
        Map<String, String> sections = new HashMap<>();
        if (!Files.exists(FILE)) {
            return sections;
        }
        for (String section : read().split("(?m)^## ")) {
            String[] parts = section.split("\n", 2);
            sections.put(parts[0].replaceFirst("^(Promise \\d+): .*", "$1"), parts.length < 2 ? "" : plain(parts[1]));
        }
        return sections;
    }

    /** Without what only sets a text: fences, headings of the interface, signatures, which FaceTest holds. */
    private static String plain(String text) {
        return text.replaceAll("```\\w*", " ")
            .replaceAll("======== \\d ", " ")
            .replaceAll("Ahead of the calls [^:]*: ---- [^.]*\\.", " ")
            .replaceFirst("^\\s*`[^`]*`:", "")
            .replaceAll("\\s+", " ");
    }

    private static String read() {
        try {
            return Files.readString(FILE);
        } catch (IOException e) {
            throw new UncheckedIOException(e);
        }
    }
}
