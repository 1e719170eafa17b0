import java.io.IOException;
import java.io.UncheckedIOException;
import java.nio.file.Files;
import java.nio.file.Path;
import java.util.LinkedHashMap;
import java.util.Map;

/**
 * Ties tests to the sentences of the document. A test names the section and the words it belongs to; words that
 * the section doesn't have are a fault, and so are words of a section that no test names.
 */
final class Sentences {
    private static final Path DOCUMENT = Path.of("../shared/DOC.md");

    private final Checks checks;
    private final Map<String, String> texts = new LinkedHashMap<>();
    private final Map<String, boolean[]> named = new LinkedHashMap<>();

    Sentences(Checks checks) {
        this.checks = checks;
        for (String part : documentText().split("(?m)^## ")) {
            String[] headAndBody = part.split("\n", 2);
            if (headAndBody.length == 2) {
                // A promise is named by its number alone, as the issues do.
                String section = headAndBody[0].replaceAll(":.*", "").trim();
                String text = headAndBody[1].replaceAll("(?s)```.*?```", " ").replaceAll("`[^`]*`", " ");
                texts.put(section, text.replaceAll("\\s+", " "));
                named.put(section, new boolean[texts.get(section).length()]);
            }
        }
    }

    static String documentText() {
        try {
            return Files.readString(DOCUMENT);
        } catch (IOException e) {
            throw new UncheckedIOException(e);
        }
    }

    /** Runs the test of these words of a section. */
    void test(String section, String words, Runnable test) {
        checks.begin(section + ", '" + words + "'");
        checks.holds("the document has these words there", markNamed(section, words));
        int before = checks.made();
        try {
            test.run();
        } catch (RuntimeException e) {
            // Told here, so that the tests of the other sentences run all the same.
            checks.holds("no call throws: " + e, false);
        }
        checks.holds("the test makes a check", checks.made() > before);
    }

    private boolean markNamed(String section, String words) {
        String text = texts.getOrDefault(section, "");
        int first = text.indexOf(words);
        for (int at = first; at >= 0; at = text.indexOf(words, at + 1)) {
            for (int i = at; i < at + words.length(); i++) {
                named.get(section)[i] = true;
            }
        }
        return first >= 0;
    }

    /** Every word of the section has to be among those that a test has named. */
    void nothingLeftOf(String section) {
        checks.begin(section);
        String text = texts.getOrDefault(section, "");
        checks.holds("the document has this section", !text.isEmpty());
        StringBuilder left = new StringBuilder();
        for (int i = 0; i < text.length(); i++) {
            if (Character.isLetterOrDigit(text.charAt(i)) && !named.get(section)[i]) {
                left.append(text.charAt(i));
            }
        }
        checks.holds("a test for every word, left are: " + left, left.length() == 0);
    }
}
