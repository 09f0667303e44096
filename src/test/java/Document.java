import java.io.IOException;
import java.io.UncheckedIOException;
import java.nio.file.Files;
import java.nio.file.Path;

/** The document itself, so that a test can say which sentence it is about, and none is left out. */
final class Document {
    private static final Path PLACE = Path.of("../shared/DOC.md");
    private final String text;
    private final boolean[] said;
    private int from = 0;
    private int to = 0;

    Document() {
        text = Files.exists(PLACE) ? read() : "";
        said = new boolean[text.length()];
    }

    private static String read() {
        try {
            return Files.readString(PLACE).replaceAll("\\s+", " ");
        } catch (IOException e) {
            throw new UncheckedIOException(e);
        }
    }

    /** The tests also run where the document is not at hand. */
    private boolean isAtHand() {
        return !text.isEmpty();
    }

    /** From here on sentences are looked for between these two; tells whether both are there. */
    boolean open(String begin, String end) {
        int at = text.indexOf(begin);
        from = at + begin.length();
        to = text.indexOf(end, Math.max(0, from));
        if (at >= 0 && to >= 0) {
            return true;
        }
        from = to = 0;
        return !isAtHand();
    }

    /** Marks the first place of a sentence that is not marked yet; tells whether there is one. */
    boolean says(String sentence) {
        for (int at = text.indexOf(sentence, from); at >= 0 && at + sentence.length() <= to;
                at = text.indexOf(sentence, at + 1)) {
            if (!said[at]) {
                java.util.Arrays.fill(said, at, at + sentence.length(), true);
                return true;
            }
        }
        return !isAtHand();
    }

    /** What no test has said of the part that is open; signs between sentences do not count. */
    String unsaid() {
        StringBuilder left = new StringBuilder();
        for (int i = from; i < to; i++) {
            left.append(said[i] ? '\n' : text.charAt(i));
        }
        return left.toString().replaceAll("`[^`]*`: ", " ").replaceAll("[^\\w#;]*[\\n ][^\\w#;]*", " ")
            .replaceAll("```|text|=+", " ").strip();
    }
}
