import java.io.IOException;
import java.nio.charset.StandardCharsets;
import java.nio.file.Files;
import java.nio.file.Path;

/**
 * A part of the document. Tests quote the words that they are for: a quote that is not there and a word that no test
 * quotes are told, so each sentence has a test of its own.
 */
final class Document {
    private final String words;
    private final boolean[] quoted;

    private Document(String text) {
        words = text.replaceAll("```(text)?", " ").replaceAll("==== \\d\\.", " ").replaceAll("\\s+", " ").trim();
        quoted = new boolean[words.length()];
    }

    private static String between(String from, String to) throws IOException {
        String all = Files.readString(Path.of("../shared/DOC.md"), StandardCharsets.UTF_8);
        int start = all.indexOf(from);
        int end = start < 0 ? -1 : all.indexOf(to, start + from.length());
        return end < 0 ? "" : all.substring(start + from.length(), end);
    }

    static Document terms() throws IOException {
        return new Document(between("## Terms\n", "## Promise 1:"));
    }

    /** What a promise says behind its call. */
    static Document promise(int n) throws IOException {
        String text = between("## Promise " + n + ":", "\n## ");
        return new Document(text.substring(text.indexOf("`:") + 2));
    }

    boolean quote(String quote) {
        int at = words.indexOf(quote);
        for (int from = at; from >= 0; from = words.indexOf(quote, from + 1)) {
            for (int k = 0; k < quote.length(); k++) {
                quoted[from + k] = true;
            }
        }
        return at >= 0 && !quote.isEmpty();
    }

    /** The words that nobody quoted, or nothing. */
    String left() {
        StringBuilder s = new StringBuilder();
        for (int k = 0; k < words.length(); k++) {
            boolean word = !quoted[k] && Character.isLetterOrDigit(words.charAt(k));
            if (word) {
                s.append(words.charAt(k));
            } else if (s.length() > 0 && s.charAt(s.length() - 1) != ' ') {
                s.append(' ');
            }
        }
        return words.isEmpty() ? "(no such part)" : s.toString().trim();
    }
}
