import java.io.IOException;
import java.nio.charset.StandardCharsets;
import java.nio.file.Files;
import java.nio.file.Path;

/**
 * The document, as the tests of its sentences quote it: each quote must stand in it, and behind all tests
 * each word of its Terms and of each promise must have been quoted by one.
 */
final class Document {
    private static final Path PLACE = Path.of("..", "shared", "DOC.md");
    private static final int PROMISES = 34;
    private static final String TERMS_BEGIN = "## Terms ";
    private static final String TERMS_END = "## Promise 1:";
    private static final String PROMISES_END = "## Not promised";

    private static final String TEXT = read();
    private static final boolean[] QUOTED = new boolean[TEXT.length()];
    private static int quotes = 0;

    private Document() {
    }

    /** The text in one line, without the marks of its blocks and parts. */
    private static String read() {
        try {
            String text = Files.readString(PLACE, StandardCharsets.UTF_8);
            return text.replace("```text", " ").replace("```", " ").replaceAll("==== \\d\\.", " ").replaceAll("\\s+", " ");
        } catch (IOException e) {
            System.out.println(PLACE + " can't be read: no quote is looked up in it");
            return "";
        }
    }

    static void quote(int promise, String words) {
        quotes++;
        if (TEXT.isEmpty()) {
            return;
        }
        boolean found = mark(words, TEXT.indexOf(TERMS_BEGIN), TEXT.indexOf(TERMS_END));
        found |= mark(words, begin(promise), begin(promise + 1));
        Check.due("these words stand in the Terms or under the promise", true, found);
    }

    private static int begin(int promise) {
        return promise > PROMISES ? TEXT.indexOf(PROMISES_END) : TEXT.indexOf("## Promise " + promise + ":");
    }

    private static boolean mark(String words, int from, int to) {
        boolean found = false;
        int at = TEXT.indexOf(words, from);
        while (at >= 0 && at + words.length() <= to) {
            found = true;
            for (int i = at; i < at + words.length(); i++) {
                QUOTED[i] = true;
            }
            at = TEXT.indexOf(words, at + 1);
        }
        return found;
    }

    /** Behind all tests: no word of the Terms or of a promise is left without one. */
    static void allQuoted() {
        System.out.println(quotes + " quotes");
        if (TEXT.isEmpty()) {
            return;
        }
        allQuoted("Terms", TEXT.indexOf(TERMS_BEGIN) + TERMS_BEGIN.length(), TEXT.indexOf(TERMS_END));
        for (int promise = 1; promise <= PROMISES; promise++) {
            // behind its heading and its line of Java, which LanguageTest looks at
            int from = TEXT.indexOf("`: ", begin(promise)) + 3;
            allQuoted("Promise " + promise, from, begin(promise + 1));
        }
    }

    private static void allQuoted(String where, int from, int to) {
        int at = from;
        while (at < to) {
            int end = at;
            while (end < to && !QUOTED[end]) {
                end++;
            }
            String rest = TEXT.substring(at, end);
            boolean words = rest.chars().anyMatch(Character::isLetterOrDigit);
            Check.due(where + ": without a test: <" + rest + ">, words", false, words);
            at = end + 1;
        }
    }
}
