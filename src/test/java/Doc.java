import java.io.IOException;
import java.io.UncheckedIOException;
import java.nio.file.Files;
import java.nio.file.Path;

/** The words of one promise of ../shared/DOC.md (0: of its Terms), and which of them tests have named. */
final class Doc {
    private final String words;
    private final boolean[] named;

    Doc(int promise) {
        String head = promise == 0 ? "## Terms " : "## Promise " + promise + ": ";
        String all = plain() + " ## ";
        int begin = all.indexOf(head) + head.length();
        String part = all.substring(begin, all.indexOf(" ## ", begin));
        words = promise == 0
            ? part.replaceAll("Ahead of the calls [^-]* the interface says: ---- ", "")
            : part.substring(part.indexOf("`: ") + 3);
        named = new boolean[words.length()];
    }

    private static String plain() {
        try {
            String all = Files.readString(Path.of("../shared/DOC.md"));
            return all.replaceAll("```(text)?", " ").replaceAll("\\s+", " ");
        } catch (IOException e) {
            throw new UncheckedIOException(e);
        }
    }

    /** Whether it has such words; they are named then. */
    boolean name(String some) {
        int at = words.indexOf(some);
        for (int k = at; at >= 0 && k < at + some.length(); k++) {
            named[k] = true;
        }
        return at >= 0;
    }

    /** The words that were not named. */
    String notNamed() {
        StringBuilder left = new StringBuilder();
        for (int k = 0; k < named.length; k++) {
            if (!named[k] && Character.isLetterOrDigit(words.charAt(k))) {
                left.append(words.charAt(k));
            } else if (left.length() > 0 && left.charAt(left.length() - 1) != ' ') {
                left.append(' ');
            }
        }
        return left.toString().trim();
    }
}
