import java.io.IOException;
import java.nio.file.Files;
import java.nio.file.Path;

/** The document's sentences: the tests of its boundary cases quote them, and none may be left unquoted. */
final class Doc {
    /** Stands for the Terms where a promise's number is asked for. */
    static final int TERMS = 0;
    private static final int PROMISES = 34;
    /** Where what the document says ahead of its Terms is kept. */
    static final int FIRST = PROMISES + 1;

    private static final Path PLACE = Path.of("../shared/DOC.md");
    private static final String[] WHOLE = new String[PROMISES + 2];
    private static final String[] UNQUOTED = new String[PROMISES + 2];

    private static int promise = TERMS;
    private static String sentence = "";

    private Doc() {
    }

    static void open() throws IOException {
        if (!Files.exists(PLACE)) {
            System.out.println("there is no " + PLACE + ": the quoted sentences are not looked up");
            return;
        }
        String text = Files.readString(PLACE).replaceAll("\\s+", " ");
        WHOLE[FIRST] = between(text, "## What it is ", "## The public face");
        keep(TERMS, between(text, "## Terms ", "Ahead of the calls"));
        for (int n = 1; n <= PROMISES; n++) {
            String whole = between(text, "## Promise " + n + ": ", " ##");
            keep(n, whole.substring(whole.indexOf("`: ") + 3));
        }
    }

    private static void keep(int n, String text) {
        WHOLE[n] = text;
        UNQUOTED[n] = text;
    }

    private static String between(String text, String from, String to) {
        int start = text.indexOf(from) + from.length();
        return text.substring(start, text.indexOf(to, start));
    }

    /** What follows tests this sentence. */
    static void says(int ofPromise, String quoted) {
        promise = ofPromise;
        sentence = quoted;
        if (WHOLE[ofPromise] != null) {
            Due.that("the document says, of promise " + ofPromise + ": " + quoted, WHOLE[ofPromise].contains(quoted));
        }
        if (UNQUOTED[ofPromise] != null) {
            UNQUOTED[ofPromise] = UNQUOTED[ofPromise].replace(quoted, "");
        }
    }

    static void is(String call, long got, long want) {
        Due.is(promise, "'" + sentence + "' " + call, got, want);
    }

    /** A sentence that nothing quotes has no test of its own. */
    static void finish() {
        for (int n = 0; n <= PROMISES; n++) {
            String left = UNQUOTED[n] == null ? "" : UNQUOTED[n].replaceAll("======== [123] |```(text)?", "");
            Due.that("all of promise " + n + " is quoted, but: " + left.trim(), !left.matches(".*[A-Za-z0-9].*"));
        }
    }
}
