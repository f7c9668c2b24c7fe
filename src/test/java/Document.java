import java.io.IOException;
import java.nio.charset.StandardCharsets;
import java.nio.file.Files;
import java.nio.file.Path;
import java.util.ArrayList;
import java.util.HashMap;
import java.util.LinkedHashMap;
import java.util.List;
import java.util.Map;

/**
 * The words of ../shared/DOC.md, section by section, and which of them a test has quoted. The
 * directory comes in the property 'shared'; without it nothing is compared, and only the calls count.
 */
final class Document {
    /** Two parts of the Description have a plain line as their heading. */
    private static final List<String> PLAIN_HEADINGS = List.of("Meters, readings", "History, errors");
    private static final List<String> PARTS = List.of("Meters, readings", "Validation", "Energy", "Balance", "Allocation",
        "Suspicion", "Revisions", "Text", "History, errors");

    private final Map<String, String> sections = new LinkedHashMap<>();
    private final Map<String, boolean[]> quoted = new HashMap<>();

    Document() throws IOException {
        String shared = System.getProperty("shared");
        if (shared == null) {
            System.out.println("no property 'shared': the sentences are not compared with the document");
            return;
        }
        String heading = "";
        for (String line : Files.readString(Path.of(shared, "DOC.md"), StandardCharsets.UTF_8).split("\n")) {
            String words = line.strip();
            if (words.startsWith("#")) {
                heading = words.replaceFirst("^#+\\s*", "");
            } else if (PLAIN_HEADINGS.contains(words)) {
                heading = words;
            } else if (!isFace(words)) {
                sections.merge(heading, words, (all, more) -> (all + " " + more).replaceAll("\\s+", " "));
            }
        }
        sections.forEach((name, words) -> quoted.put(name, new boolean[words.length()]));
    }

    /** Signatures and the rulers between groups are no sentences: FaceTest looks at the face. */
    private static boolean isFace(String words) {
        return words.startsWith("`") || words.startsWith("----");
    }

    /** Marks the first place of a quotation that is not yet marked; answers whether there is one. */
    boolean quote(String heading, String words) {
        if (sections.isEmpty()) {
            return true;
        }
        String all = sections.getOrDefault(heading, "");
        for (int at = all.indexOf(words); at >= 0; at = all.indexOf(words, at + 1)) {
            boolean[] marks = quoted.get(heading);
            if (!isMarked(marks, at, at + words.length())) {
                java.util.Arrays.fill(marks, at, at + words.length(), true);
                return true;
            }
        }
        return false;
    }

    private static boolean isMarked(boolean[] marks, int from, int to) {
        for (int at = from; at < to; at++) {
            if (!marks[at]) {
                return false;
            }
        }
        return true;
    }

    /** The words of the promises and of the parts of the Description that no test has quoted. */
    List<String> unquoted() {
        List<String> found = new ArrayList<>();
        for (Map.Entry<String, String> section : sections.entrySet()) {
            if (PARTS.contains(section.getKey()) || section.getKey().startsWith("Promise ")) {
                addUnquoted(found, section.getKey(), section.getValue());
            }
        }
        return found;
    }

    private void addUnquoted(List<String> found, String heading, String words) {
        boolean[] marks = quoted.get(heading);
        int start = 0;
        while (start < words.length()) {
            int end = start;
            while (end < words.length() && !marks[end]) {
                end++;
            }
            if (words.substring(start, end).matches(".*[A-Za-z0-9].*")) {
                found.add(heading + ": " + words.substring(start, end));
            }
            start = end + 1;
        }
    }
}
