import java.io.IOException;
import java.nio.charset.StandardCharsets;
import java.nio.file.Files;
import java.nio.file.Path;

/**
 * The document's words, and which of them a test has been for. Section 0 is the Terms, 1 to 39 are
 * the promises; each word of these must have had a test in the end.
 */
final class Doc {
    static final int TERMS = 0, PROMISES = 39;
    private static final Path FILE = Path.of("../shared/DOC.md");

    private static final String[] words = new String[PROMISES + 1];
    private static final boolean[][] tested = new boolean[PROMISES + 1][];
    private static String whole = "";

    private Doc() {
    }

    static void read() throws IOException {
        String text = Files.readString(FILE, StandardCharsets.UTF_8);
        whole = plain(text);
        for (int s = TERMS; s <= PROMISES; s++) {
            words[s] = s == TERMS ? plain(between(text, "## Terms\n", "Ahead of the calls")) : promise(text, s);
            tested[s] = new boolean[words[s].length()];
        }
    }

    /** A test is for these words; whether they stand in that section. */
    static boolean test(int section, String quote) {
        String sought = plain(quote);
        int first = words[section].indexOf(sought), at = first;
        if (first < 0) return false;
        while (at >= 0 && isTested(section, at, sought.length())) at = words[section].indexOf(sought, at + 1);
        if (at < 0) at = first;
        for (int i = at; i < at + sought.length(); i++) tested[section][i] = true;
        return true;
    }

    /** Whether these words stand anywhere. */
    static boolean has(String quote) {
        return whole.contains(plain(quote));
    }

    /** The words of a section that no test has been for, or nothing. */
    static String left(int section) {
        StringBuilder left = new StringBuilder();
        for (int i = 0; i < words[section].length(); i++) {
            left.append(tested[section][i] ? ' ' : words[section].charAt(i));
        }
        return left.toString().replaceAll("[^A-Za-z0-9]+", " ").trim().isEmpty() ? "" : left.toString().replaceAll(" +", " ").trim();
    }

    private static boolean isTested(int section, int from, int length) {
        for (int i = from; i < from + length; i++) if (!tested[section][i]) return false;
        return true;
    }

    private static String promise(String text, int s) {
        String next = s == PROMISES ? "## Not promised" : "## Promise " + (s + 1) + ":";
        String section = between(text, "## Promise " + s + ":", next);
        return plain(section.substring(section.indexOf("`: ") + 3));
    }

    private static String between(String text, String from, String to) {
        int start = text.indexOf(from) + from.length();
        return text.substring(start, text.indexOf(to, start));
    }

    private static String plain(String text) {
        return text.replaceAll("```(text|java)?", " ").replaceAll("={8} [12] ", " ").replaceAll("\\s+", " ").trim();
    }
}
