import java.io.IOException;
import java.nio.file.Files;
import java.nio.file.Path;
import java.util.ArrayList;
import java.util.Arrays;
import java.util.List;
import java.util.regex.Matcher;
import java.util.regex.Pattern;
import java.util.stream.Stream;

/** No sentence of the document is without a test: all words of the promises and of the terms are quoted by tests. */
public final class SentencesTest {
    private static final String TEXT = "\"((?:[^\"\\\\]|\\\\.)*)\"";
    private static final Pattern TEST = Pattern.compile("s\\.test\\((\\d+),\\s*" + TEXT + "(?:\\s*\\+\\s*" + TEXT + ")?");
    private static final Due due = new Due("SentencesTest");

    public static void main(String[] args) throws IOException {
        List<String> ofAll = new ArrayList<>();
        List<List<String>> ofPromise = new ArrayList<>();
        for (int promise = 0; promise <= Doc.PROMISES; promise++) {
            ofPromise.add(new ArrayList<>());
        }
        try (Stream<Path> files = Files.list(Path.of("src/test/java"))) {
            for (Path file : (Iterable<Path>) files::iterator) {
                Matcher test = TEST.matcher(Files.readString(file));
                while (test.find()) {
                    String words = test.group(2) + (test.group(3) == null ? "" : test.group(3));
                    ofAll.add(words);
                    ofPromise.get(Integer.parseInt(test.group(1))).add(words);
                }
            }
        }
        for (int promise = 1; promise <= Doc.PROMISES; promise++) {
            due.is("promise " + promise + " without a test: " + left(Doc.wordsOf(promise), ofPromise.get(promise)),
                left(Doc.wordsOf(promise), ofPromise.get(promise)).length(), 0);
        }
        due.is("terms without a test: " + left(Doc.terms(), ofAll), left(Doc.terms(), ofAll).length(), 0);
        due.end();
    }

    /** What is left of a text without all words that are quoted, and without signs alone. */
    private static String left(String text, List<String> quoted) {
        boolean[] has = new boolean[text.length()];
        for (String words : quoted) {
            for (int at = text.indexOf(words); at >= 0; at = text.indexOf(words, at + 1)) {
                Arrays.fill(has, at, at + words.length(), true);
            }
        }
        StringBuilder left = new StringBuilder();
        for (int i = 0; i < has.length; i++) {
            left.append(has[i] ? '~' : text.charAt(i));
        }
        return left.toString().replaceAll("[ .,;:~]*~[ .,;:~]*", " ~ ").replaceAll("^[ ~]+|[ ~]+$", "");
    }
}
