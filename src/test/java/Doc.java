import java.io.IOException;
import java.nio.file.Files;
import java.nio.file.Path;

/** The document's words: the terms, and each promise's own. */
final class Doc {
    static final int PROMISES = 46;
    private static final String WHOLE = read();

    private Doc() {
    }

    private static String read() {
        try {
            return plain(Files.readString(Path.of("../shared/DOC.md")));
        } catch (IOException e) {
            throw new IllegalStateException("no document at ../shared/DOC.md", e);
        }
    }

    /** Blanks, the marks of listings and the bars ahead of the parts of the terms tell nothing. */
    private static String plain(String text) {
        return text.replace("```text", " ").replace("```", " ").replaceAll("======== \\d ", " ").replaceAll("\\s+", " ");
    }

    private static String between(String start, String end) {
        int from = WHOLE.indexOf(start);
        int till = WHOLE.indexOf(end, from + 1);
        return WHOLE.substring(from, till);
    }

    /** What is said ahead of the promises: what it is, the terms, which answer comes first. */
    static String ahead() {
        return between("## What it is", "## Promise 1: ");
    }

    static String terms() {
        return between("## Terms", "Ahead of the calls `person`").substring("## Terms".length());
    }

    static String promise(int number) {
        String end = number == PROMISES ? "## Not promised" : "## Promise " + (number + 1) + ": ";
        return between("## Promise " + number + ": ", end);
    }

    /** What a promise says behind its call's face. */
    static String wordsOf(int number) {
        String section = promise(number);
        return section.substring(section.indexOf("`: ") + 3).trim();
    }
}
