import java.io.IOException;
import java.io.UncheckedIOException;
import java.nio.file.Files;
import java.nio.file.Path;
import java.util.regex.Matcher;
import java.util.regex.Pattern;

/**
 * The document's terms and promises. Each test quotes the sentence that it tests; what is quoted is taken
 * away, so that what no test quotes is left over.
 */
final class Told {
    static final int TERMS = 0, PROMISES = 20;
    private static final Path DOCUMENT = Path.of("../shared/DOC.md");
    private static final Pattern PROMISE = Pattern.compile("(?s)## Promise (\\d+): .*?\\)`: (.*?)(?=\n## )");
    private static final String NO_SENTENCE = "## Terms|```(text)?|={8} \\d ";

    private final String[] left = new String[PROMISES + 1];
    private final boolean isAtHand = Files.exists(DOCUMENT);

    Told() {
        if (!isAtHand) {
            System.out.println("no " + DOCUMENT + ": quotes are not held against it");
            return;
        }
        try {
            read(Files.readString(DOCUMENT));
        } catch (IOException e) {
            throw new UncheckedIOException(e);
        }
    }

    private void read(String document) {
        int terms = document.indexOf("## Terms");
        int promises = document.indexOf("## Promise 1:");
        left[TERMS] = document.substring(terms, promises).replaceAll(NO_SENTENCE, " ").replaceAll("\\s+", " ");
        Matcher promise = PROMISE.matcher(document);
        int next = 1;
        while (promise.find() && next <= PROMISES) {
            Due.is("the number of the promise", Integer.parseInt(promise.group(1)), next);
            left[next] = promise.group(2).replaceAll("\\s+", " ");
            next++;
        }
        Due.is("the number of promises", next - 1, PROMISES);
    }

    /** Told of the terms, or of a promise by its number. */
    void says(int where, String sentence) {
        if (!isAtHand) return;
        String before = left[where] == null ? "" : left[where];
        int at = before.indexOf(sentence);
        Due.holds("the document says, and no other test quotes: " + sentence, at >= 0);
        if (at >= 0) {
            left[where] = before.substring(0, at) + " | " + before.substring(at + sentence.length());
        }
    }

    void nothingIsLeft(int from, int to) {
        for (int where = from; isAtHand && where <= to; where++) {
            String rest = left[where] == null ? "all of it" : left[where].replace('|', ' ').strip();
            Due.holds("each sentence of promise " + where + " (0: the terms) is tested, too: " + rest, rest.isEmpty());
        }
    }
}
