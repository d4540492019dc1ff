import java.io.IOException;
import java.nio.file.Files;
import java.nio.file.Path;
import java.util.Arrays;

/** The document as one line of words, without headings; tests quote it, and what nobody has quoted is told. */
final class Document {
    private static final Path PLACE = Path.of("../shared/DOC.md");

    private final String text;
    private final boolean[] quoted;

    Document() {
        text = Files.isReadable(PLACE) ? plain(read()) : "";
        quoted = new boolean[text.length()];
    }

    boolean isAtHand() {
        return !text.isEmpty();
    }

    private static String read() {
        try {
            return Files.readString(PLACE);
        } catch (IOException e) {
            throw new IllegalStateException(e);
        }
    }

    private static String plain(String written) {
        return written.replaceAll("(?m)^(#|```).*$", "").replaceAll("\\s+", " ");
    }

    /** Answers whether the document has these words. */
    boolean quote(String words) {
        int at = text.indexOf(plain(words));
        if (at >= 0) {
            Arrays.fill(quoted, at, at + plain(words).length(), true);
        }
        return at >= 0;
    }

    /** The words from the first ones up to the last ones that nobody has quoted. */
    String unquoted(String first, String last) {
        if (text.indexOf(first) < 0 || text.indexOf(last) < 0) {
            return first + " .. " + last;
        }
        StringBuilder left = new StringBuilder();
        for (int i = text.indexOf(first); i < text.indexOf(last); i++) {
            left.append(quoted[i] ? ' ' : text.charAt(i));
        }
        return plain(left.toString()).trim();
    }
}
