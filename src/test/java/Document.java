import java.io.IOException;
import java.nio.file.Files;
import java.nio.file.Path;
import java.util.ArrayList;
import java.util.List;

/** The document's head and terms (section 0) and promises (1 to 29) as plain text, and which words a test has quoted. */
final class Document {
    private static final int PROMISES = 29;

    private final String[] sections = new String[PROMISES + 1];
    private final boolean[][] quoted = new boolean[PROMISES + 1][];

    Document(Path file) throws IOException {
        String text = Files.readString(file).replaceAll("```(text)?|======== \\d", " ").replaceAll("\\s+", " ");
        sections[0] = between(text, "joining. ", "## ") + " " + between(text, "## Terms ", "Ahead of the calls ");
        for (int i = 1; i <= PROMISES; i++) {
            String promise = between(text, "## Promise " + i + ":", "## ");
            sections[i] = promise.substring(promise.indexOf("`: ") + 3);
        }
        for (int i = 0; i <= PROMISES; i++) {
            quoted[i] = new boolean[sections[i].length()];
        }
    }

    private static String between(String text, String head, String end) {
        int from = text.indexOf(head) + head.length();
        return text.substring(from, text.indexOf(end, from)).trim();
    }

    /** Whether the words stand there; from now on they are quoted. */
    boolean quote(int section, String words) {
        int from = sections[section].indexOf(words);
        for (int i = from; from >= 0 && i < from + words.length(); i++) {
            quoted[section][i] = true;
        }
        return from >= 0;
    }

    List<String> unquoted() {
        List<String> all = new ArrayList<>();
        for (int section = 0; section <= PROMISES; section++) {
            StringBuilder left = new StringBuilder();
            for (int i = 0; i < quoted[section].length; i++) {
                left.append(quoted[section][i] ? '\n' : sections[section].charAt(i));
            }
            for (String words : left.toString().split("\n+")) {
                if (!words.replaceAll("[^A-Za-z0-9]", "").isEmpty()) {
                    all.add("section " + section + ":" + words);
                }
            }
        }
        return all;
    }
}
