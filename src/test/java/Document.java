import java.io.IOException;
import java.io.UncheckedIOException;
import java.nio.file.Files;
import java.nio.file.Path;
import java.util.ArrayList;
import java.util.List;

/** The words of ../shared/DOC.md: its terms (0) and its promises (1 to 43), and which of them a test stands for. */
final class Document {
    private static final Path PLACE = Path.of("../shared/DOC.md");
    private static final int PROMISES = 43;

    private final String[] words = new String[PROMISES + 1];
    private final boolean[][] marked = new boolean[PROMISES + 1][];
    private final boolean isHere = Files.exists(PLACE);

    Document() {
        String all = isHere ? read() : "";
        for (int i = 0; i <= PROMISES; i++) {
            words[i] = plain(section(all, i == 0 ? "## Terms\n" : "## Promise " + i + ": "));
            marked[i] = new boolean[words[i].length()];
        }
    }

    private static String read() {
        try {
            return Files.readString(PLACE);
        } catch (IOException e) {
            throw new UncheckedIOException(e);
        }
    }

    private static String section(String all, String heading) {
        int start = all.indexOf(heading);
        if (start < 0) {
            return "";
        }
        int body = all.indexOf('\n', start);
        int end = all.indexOf("\n## ", body);
        return all.substring(body, end < 0 ? all.length() : end);
    }

    /** Without what tells no rule: fences, a call's head, the numbers of sections, which calls stand together. */
    private static String plain(String section) {
        return section.replaceAll("(?m)^```.*$", "").replaceAll("(?m)^Ahead of the calls .*$", "")
            .replaceAll("(?m)^`[^`]*`: ", "").replaceAll("(?m)^[1-5]\\. ", "").replaceAll("\\s+", " ").trim();
    }

    boolean marks(int promise, String sentence) {
        if (!isHere) {
            return true;
        }
        int at = words[promise].indexOf(sentence);
        for (int i = 0; at >= 0 && i < sentence.length(); i++) {
            marked[promise][at + i] = true;
        }
        return at >= 0;
    }

    List<String> withoutSentence() {
        List<String> left = new ArrayList<>();
        for (int p = 0; p <= PROMISES; p++) {
            StringBuilder run = new StringBuilder();
            for (int i = 0; i <= words[p].length(); i++) {
                if (i < words[p].length() && !marked[p][i]) {
                    run.append(words[p].charAt(i));
                } else {
                    if (!run.toString().trim().isEmpty()) {
                        left.add((p == 0 ? "Terms: " : "Promise " + p + ": ") + run);
                    }
                    run.setLength(0);
                }
            }
        }
        return left;
    }
}
