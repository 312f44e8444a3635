import java.io.IOException;
import java.nio.file.Files;
import java.nio.file.Path;
import java.util.ArrayList;
import java.util.BitSet;
import java.util.LinkedHashMap;
import java.util.List;
import java.util.Map;
import java.util.Set;

/** The document by its sections, and which of its words have been quoted. */
final class Document {
    private static final Path FILE = Path.of(System.getProperty("shared", "../shared"), "DOC.md");

    private final Map<String, StringBuilder> texts = new LinkedHashMap<>();
    private final Map<String, BitSet> quoted = new LinkedHashMap<>();

    Document() throws IOException {
        StringBuilder text = new StringBuilder();
        for (String line : Files.readAllLines(FILE)) {
            if (isHeading(line)) {
                text = new StringBuilder();
                texts.put(title(line), text);
                quoted.put(title(line), new BitSet());
            } else {
                text.append(line).append('\n');
            }
        }
    }

    /** One heading of the document has no sign ahead of it. */
    private static boolean isHeading(String line) {
        return line.startsWith("#") || line.equals("Carts, registers");
    }

    private static String title(String line) {
        return line.replaceFirst("^#+ ", "");
    }

    /** The title of a promise's own section. */
    String promise(int number) {
        for (String title : texts.keySet()) {
            if (title.startsWith("Promise " + number + ":")) {
                return title;
            }
        }
        return "no promise " + number;
    }

    /** Marks the words of a section; false if they don't stand in it. */
    boolean quote(String title, String words) {
        String text = texts.getOrDefault(title, new StringBuilder()).toString();
        int at = text.indexOf(words);
        boolean found = at >= 0;
        while (at >= 0) {
            quoted.get(title).set(at, at + words.length());
            at = text.indexOf(words, at + 1);
        }
        return found;
    }

    /** The words of a section from those on, up to the end of their clause. */
    String clause(String title, String begin) {
        String text = texts.getOrDefault(title, new StringBuilder()).toString();
        int from = text.indexOf(begin);
        if (from < 0) {
            return begin;
        }
        int to = from;
        while (to < text.length() && ";.\n".indexOf(text.charAt(to)) < 0) {
            to++;
        }
        return text.substring(from, to);
    }

    Set<String> titles() {
        return texts.keySet();
    }

    /** What nobody has quoted of a section, by lines, without signatures of calls and signs ahead of it. */
    List<String> left(String title) {
        List<String> left = new ArrayList<>();
        String text = texts.get(title).toString();
        BitSet marks = quoted.get(title);
        int from = marks.nextClearBit(0);
        while (from < text.length()) {
            int next = marks.nextSetBit(from);
            int to = next < 0 ? text.length() : next;
            for (String line : text.substring(from, to).split("\n")) {
                String words = line.replaceFirst("^`int [^`]*`:", "").replaceFirst("^[^A-Za-z0-9`]+", "").strip();
                if (!words.isEmpty()) {
                    left.add(words);
                }
            }
            from = marks.nextClearBit(to);
        }
        return left;
    }
}
