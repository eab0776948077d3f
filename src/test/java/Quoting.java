import java.io.IOException;

/** Tests that say by which words of the document an answer is due. */
abstract class Quoting extends Asking {
    private static Document document;
    private static String part = "";
    private static String sentence = "";
    private static boolean answered = true;

    /** The sentences that follow are of Promise n. */
    static void promise(int n) throws IOException {
        close();
        document = Document.promise(n);
        part = "Promise " + n;
    }

    static void terms() throws IOException {
        close();
        document = Document.terms();
        part = "Terms";
    }

    /** The answers that follow are due by these words. */
    static void says(String quote) {
        ended();
        sentence = quote;
        answered = false;
        due(part + " has the words \"" + quote + "\"", document.quote(quote), true);
    }

    /** A sentence must not be quoted for nothing. */
    private static void ended() {
        due(part + " \"" + sentence + "\" has a test", answered, true);
        answered = true;
    }

    /** No word of the part was left out. */
    static void close() {
        ended();
        if (document != null) {
            String left = document.left();
            due(part + ": words without a test: " + left, left.isEmpty(), true);
        }
        document = null;
    }

    static void is(String what, long got, long want) {
        answered = true;
        due(part + " \"" + sentence + "\": " + what, got, want);
    }

    static void is(String what, boolean got, boolean want) {
        answered = true;
        due(part + " \"" + sentence + "\": " + what, got, want);
    }
}
