import java.io.IOException;
import java.nio.file.Files;
import java.nio.file.Path;
import java.util.LinkedHashMap;
import java.util.Map;
import java.util.Set;

/**
 * Sentences of the document, each with the answers that it asks for. What is quoted must stand in the document, so
 * that a test whose sentence has been changed is found.
 */
final class Sentences {
    private static final Path DOCUMENT = Path.of("../shared/DOC.md");

    private final Due due;
    private final Map<String, String> sections = new LinkedHashMap<>();
    private final Map<String, String> unquoted = new LinkedHashMap<>();
    private String sentence = "";

    Sentences(String test) {
        due = new Due(test);
        if (Files.exists(DOCUMENT)) {
            read();
        }
    }

    private void read() {
        try {
            for (String section : Files.readString(DOCUMENT).split("\n## ")) {
                String title = section.split("[:\n]", 2)[0];
                String body = section.replaceAll("\\s+", " ");
                sections.put(title, body);
                unquoted.put(title, title.startsWith("Promise") ? body.replaceFirst("^.*?`[^`]*`: ", "") : plain(body, title));
            }
        } catch (IOException e) {
            throw new IllegalStateException(e);
        }
    }

    /** Without the marks that stand between sentences: ====, a number, and how the page is set. */
    private static String plain(String body, String title) {
        return body.substring(title.length()).replaceAll("==== \\d |```(text)?", "");
    }

    /** The answers that follow are those that this sentence asks for. */
    void says(String title, String quote) {
        sentence = title + ", " + quote;
        if (sections.isEmpty()) {
            return;
        }
        due.is("the document says: " + sentence, sections.getOrDefault(title, "").contains(quote) ? 1 : 0, 1);
        unquoted.computeIfPresent(title, (key, left) -> left.replace(quote, ""));
    }

    void is(String call, long got, long want) {
        due.is("[" + sentence + "] " + call, got, want);
    }

    void is(String call, String got, String want) {
        due.is("[" + sentence + "] " + call, got, want);
    }

    /** Each sentence of a section has been quoted. */
    void whole(String title) {
        if (!sections.isEmpty()) {
            due.is("sentences without a test: " + title, unquoted.getOrDefault(title, "?").trim(), "");
        }
    }

    /** The titles of the document's sections; none if there is no document. */
    Set<String> titles() {
        return sections.keySet();
    }

    void end() {
        due.end();
    }
}
