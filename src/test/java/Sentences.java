import java.io.IOException;
import java.nio.file.Files;
import java.nio.file.Path;
import java.util.HashMap;
import java.util.Map;

/**
 * Sentences of the document, each with the answers that it asks for. What is quoted must stand in the document, so
 * that a test whose sentence has been changed is found.
 */
final class Sentences {
    private static final Path DOCUMENT = Path.of("../shared/DOC.md");

    private final Due due;
    private final Map<String, String> sections = new HashMap<>();
    private final Map<String, String> unquoted = new HashMap<>();
    private String sentence = "";

    Sentences(String test) {
        due = new Due(test);
        if (Files.exists(DOCUMENT)) {
            read();
        }
    }

    private void read() {
        try {
            for (String section : Files.readString(DOCUMENT).split("\n## ")) {
                String title = section.split("[:\n]", 2)[0];
                String body = section.replaceAll("\\s+", " ");
                sections.put(title, body);
                unquoted.put(title, body.replaceFirst("^.*?`[^`]*`: ", ""));
            }
        } catch (IOException e) {
            throw new IllegalStateException(e);
        }
    }

    /** The answers that follow are those that this sentence asks for. */
    void says(String title, String quote) {
        sentence = title + ", " + quote;
        if (sections.isEmpty()) {
            return;
        }
        due.is("the document says: " + sentence, sections.getOrDefault(title, "").contains(quote) ? 1 : 0, 1);
        unquoted.computeIfPresent(title, (key, left) -> left.replace(quote, ""));
    }

    void is(String call, long got, long want) {
        due.is("[" + sentence + "] " + call, got, want);
    }

    void is(String call, String got, String want) {
        due.is("[" + sentence + "] " + call, got, want);
    }

    /** Of a promise each sentence has been quoted. */
    void wholePromise(int number) {
        String title = "Promise " + number;
        if (!sections.isEmpty()) {
            due.is("sentences without a test: " + title, unquoted.getOrDefault(title, "?").trim(), "");
        }
    }

    void end() {
        due.end();
    }
}
