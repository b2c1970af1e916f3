import java.io.IOException;
import java.nio.file.Files;
import java.nio.file.Path;
import java.util.ArrayList;
import java.util.BitSet;
import java.util.List;
import java.util.regex.Matcher;
import java.util.regex.Pattern;

/** The document in sections (0: Terms, n: Promise n), and which of its words a test has quoted. */
final class Doc {
    static final int PROMISES = 39;

    private final String[] sections = new String[PROMISES + 1];
    private final BitSet[] quoted = new BitSet[PROMISES + 1];

    Doc(Path file) throws IOException {
        String text = Files.readString(file);
        int end = text.indexOf("## Not promised");
        sections[0] = plain(text.substring(text.indexOf("## Terms") + 8, text.indexOf("## Promise 1:")));
        for (int n = 1; n <= PROMISES; n++) {
            int from = text.indexOf('\n', text.indexOf("## Promise " + n + ":"));
            int to = n == PROMISES ? end : text.indexOf("## Promise " + (n + 1) + ":");
            sections[n] = plain(text.substring(from, to).replaceFirst("`[^`]*`", ""));
        }
        for (int n = 0; n <= PROMISES; n++) {
            quoted[n] = new BitSet();
        }
    }

    private static String plain(String text) {
        return text.replace("```text", " ").replace("`", "").replaceAll("==== \\d\\.", " ").replaceAll("\\s+", " ").trim();
    }

    /** False: the section has no such words. */
    boolean quote(int section, String words) {
        int at = sections[section].indexOf(words);
        if (at < 0) {
            return false;
        }
        quoted[section].set(at, at + words.length());
        return true;
    }

    /** The stretches with a letter or a digit in them that no test has quoted. */
    List<String> unquoted() {
        List<String> left = new ArrayList<>();
        for (int n = 0; n <= PROMISES; n++) {
            StringBuilder rest = new StringBuilder();
            for (int i = 0; i < sections[n].length(); i++) {
                rest.append(quoted[n].get(i) ? '\n' : sections[n].charAt(i));
            }
            Matcher stretch = Pattern.compile("[^\\n]*[A-Za-z0-9][^\\n]*").matcher(rest);
            while (stretch.find()) {
                left.add((n == 0 ? "Terms" : "Promise " + n) + ": " + stretch.group().trim());
            }
        }
        return left;
    }
}
