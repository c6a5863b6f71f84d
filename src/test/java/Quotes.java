import java.io.IOException;
import java.nio.file.Files;
import java.nio.file.Path;
import java.util.Arrays;
import java.util.regex.Matcher;
import java.util.regex.Pattern;

/**
 * The document's words, sentence by sentence. A test quotes a sentence ahead of the checks that would fail if it were
 * broken; at the end every word of the document must have been quoted by one of them.
 */
final class Quotes {
    private static final Path DOCUMENT = Path.of("../shared/DOC.md");
    private static final int PROMISES = 41;
    private static final String END = "";
    /** What stands there without asking anything: headings, a promise's own line of the face, marks of the layout. */
    private static final Pattern LAYOUT = Pattern.compile(
            "^# TwinTreeVolume|## What it is|## The public face|## Terms|## Promise \\d+: [^`]*`[^`]*`:|## Not promised"
                    + "|```(java|text)?|==== II?\\.|In mind:");

    private static final String TEXT = read();
    private static final boolean[] QUOTED = new boolean[TEXT.length()];
    private static int checksAhead = -1;

    private Quotes() {
    }

    /** A sentence of "What it is". */
    static void whatItIs(String words) {
        quote("What it is", "## What it is", "## The public face", words);
    }

    /** A line of "The public face". */
    static void face(String words) {
        quote("The public face", "## The public face", "## Terms", words);
    }

    /** A sentence of "Not promised". */
    static void notPromised(String words) {
        quote("Not promised", "## Not promised", END, words);
    }

    /** A sentence of the "Terms", and the promises to which it belongs. */
    static void terms(String words, int... promises) {
        Checks.holds("a promise is named for: " + words, promises.length > 0);
        for (int promise : promises) {
            Checks.holds("there is promise " + promise, promise >= 1 && promise <= PROMISES);
        }
        quote("Terms, for promises " + Arrays.toString(promises), "## Terms", "## Promise 1:", words);
    }

    /** A sentence of a promise. */
    static void promise(int promise, String words) {
        String next = promise == PROMISES ? "## Not promised" : "## Promise " + (promise + 1) + ":";
        quote("Promise " + promise, "## Promise " + promise + ":", next, words);
    }

    private static void quote(String where, String from, String to, String words) {
        endOfQuote();
        int begin = TEXT.indexOf(words, TEXT.indexOf(from));
        int end = to.equals(END) ? TEXT.length() : TEXT.indexOf(to);
        boolean isThere = begin >= 0 && begin + words.length() <= end;
        Checks.under(where + ": " + words);
        Checks.holds("the document says so", isThere);
        if (isThere) {
            Arrays.fill(QUOTED, begin, begin + words.length(), true);
        }
        checksAhead = Checks.made();
    }

    /** Behind each quote there must have been a check. */
    private static void endOfQuote() {
        if (checksAhead >= 0) {
            Checks.holds("it has a check", Checks.made() > checksAhead);
        }
        checksAhead = -1;
    }

    /** Every word of the document has been quoted. */
    static void end() {
        endOfQuote();
        Checks.under("the document's sentences");
        Matcher layout = LAYOUT.matcher(TEXT);
        while (layout.find()) {
            Arrays.fill(QUOTED, layout.start(), layout.end(), true);
        }
        int from = 0;
        while (from < TEXT.length()) {
            int to = from;
            while (to < TEXT.length() && QUOTED[to] == QUOTED[from]) {
                to++;
            }
            String words = TEXT.substring(from, to);
            boolean isMissed = !QUOTED[from] && words.matches(".*[A-Za-z0-9].*");
            Checks.holds("a test quotes: " + words, !isMissed);
            from = to;
        }
    }

    private static String read() {
        try {
            return Files.readString(DOCUMENT).replaceAll("\\s+", " ");
        } catch (IOException e) {
            throw new IllegalStateException("no document at " + DOCUMENT, e);
        }
    }
}
