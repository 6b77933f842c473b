import java.io.IOException;
import java.nio.file.Files;
import java.nio.file.Path;
import java.util.ArrayList;
import java.util.BitSet;
import java.util.List;

/** The document's words, to see which of its sentences have a test; without the document nothing is told. */
final class Document {
    private static final Path PLACE = Path.of("../shared/DOC.md");
    private final String words = read();
    private final BitSet quoted = new BitSet();

    private static String read() {
        try {
            return Files.readString(PLACE);
        } catch (IOException absent) {
            return "";
        }
    }

    /** Marks a sentence of a promise, or (0) of the Terms. */
    void quote(int promise, String sentence) {
        int from = start(promise);
        int at = words.indexOf(sentence, from);
        if (at >= 0 && at + sentence.length() <= start(promise + 1)) {
            quoted.set(at, at + sentence.length());
        } else if (!words.isEmpty()) {
            System.out.println("promise " + promise + " does not say: " + sentence);
        }
    }

    private int start(int promise) {
        String head = promise == 0 ? "## Terms" : promise > 30 ? "## Not promised" : "## Promise " + promise + ":";
        return Math.max(0, words.indexOf(head));
    }

    /** What stands in the Terms and the promises, heads and signatures aside, and was not quoted. */
    List<String> unquoted() {
        List<String> found = new ArrayList<>();
        String body = words.substring(start(0), start(31));
        int from = start(0);
        for (String line : body.split("\n", -1)) {
            String rest = line.startsWith("#") || line.startsWith("```") ? "" : line;
            StringBuilder open = new StringBuilder();
            int begin = rest.startsWith("`") ? rest.indexOf('`', 1) + 1 : 0;
            for (int i = begin; i < rest.length(); i++) {
                open.append(quoted.get(from + i) ? '\n' : rest.charAt(i));
            }
            for (String part : open.toString().split("\n+")) {
                if (part.chars().anyMatch(Character::isLetterOrDigit) && !part.startsWith("====")) {
                    found.add(part.strip());
                }
            }
            from += line.length() + 1;
        }
        return found;
    }
}
