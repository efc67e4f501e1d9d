import java.nio.file.Files;
import java.nio.file.Path;
import java.util.List;

/**
 * Tests by sentence: each bears the document's own words, which must stand in the part of the
 * document that the test is of; and of each such part every sentence must have been said.
 */
final class Sentences {
    interface Start {
        KeyedLogs made();
    }

    private static final Path DOCUMENT = Path.of("../shared/DOC.md");

    private final Check check = new Check();
    private final Looks looks = new Looks();
    private final String document;
    private String part = "";
    private boolean[] said = new boolean[0];
    private String words = "";

    Sentences() {
        document = plain(text());
    }

    /** Without the document the sentences themselves can't be looked at; what they promise can. */
    private static String text() {
        try {
            return Files.exists(DOCUMENT) ? Files.readString(DOCUMENT) : "";
        } catch (java.io.IOException e) {
            return "";
        }
    }

    private static String plain(String text) {
        return text.replaceAll("```\\w*", " ").replaceAll("\\s+", " ");
    }

    /** From here on the sentences are of what stands between two texts of the document. */
    void part(String from, String to) {
        endPart();
        int at = document.indexOf(from), end = document.indexOf(to, Math.max(at, 0));
        if (!document.isEmpty()) {
            check.that("the document has a part from '" + from + "' to '" + to + "'", at >= 0 && end > at);
        }
        part = at >= 0 && end > at ? document.substring(at, end) : "";
        said = new boolean[part.length()];
    }

    void promise(int n) {
        part("## Promise " + n + ": ", n == 40 ? "## Not promised" : "## Promise " + (n + 1) + ": ");
        int behindFace = part.indexOf("`: ");
        java.util.Arrays.fill(said, 0, Math.max(behindFace, 0), true);
    }

    /** Begins the test of a sentence. */
    void says(String sentence) {
        words = sentence;
        String sought = plain(sentence);
        int at = part.indexOf(sought);
        if (!document.isEmpty()) {
            check.that("'" + sentence + "' stands in " + head(), at >= 0);
        }
        for (; at >= 0; at = part.indexOf(sought, at + 1)) {
            java.util.Arrays.fill(said, at, at + sought.length(), true);
        }
    }

    /** A sentence of which there is nothing to test. */
    void namesNoEdge(String sentence) {
        says(sentence);
    }

    private String head() {
        return "'" + part.substring(0, Math.min(40, part.length())) + " ..'";
    }

    private void endPart() {
        StringBuilder left = new StringBuilder();
        for (int i = 0; i < part.length(); i++) {
            if (!said[i] && Character.isLetterOrDigit(part.charAt(i))) {
                left.append(part.charAt(i));
            }
        }
        check.that("untested in " + head() + ": " + left, left.length() == 0);
    }

    void due(String call, long got, long want) {
        check.due("[" + words + "] " + call, got, want);
    }

    void alike(String what, String got, String want) {
        check.alike("[" + words + "] " + what, got, want);
    }

    void that(String what, boolean holds) {
        check.that("[" + words + "] " + what, holds);
    }

    /** A call with its answer, behind which all is as if it had not been. */
    void refused(String call, Start start, Looks.Call it, long answer) {
        due(call, it.on(start.made()), answer);
        changesNothing(call, start, it);
    }

    void changesNothing(String call, Start start, Looks.Call it) {
        for (List<Looks.Look> row : looks.rows) {
            KeyedLogs with = start.made();
            it.on(with);
            KeyedLogs without = start.made();
            for (Looks.Look look : row) {
                due(call + ", then " + look.name(), look.call().on(with), look.call().on(without));
            }
        }
    }

    void end(String name) {
        endPart();
        check.end(name);
    }
}
