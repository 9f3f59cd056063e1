import java.io.IOException;
import java.nio.file.Files;
import java.nio.file.Path;
import java.util.LinkedHashMap;
import java.util.Map;

/**
 * The document, and which passages of it the tests have quoted: a test says which passage it is of,
 * and in the end no passage may be left of which there was no test.
 */
final class Sentences {
    private static final Path DOCUMENT = Path.of("../shared/DOC.md");

    private final Due due;
    private final Map<String, String> sections = new LinkedHashMap<>();
    private final Map<String, boolean[]> quoted = new LinkedHashMap<>();
    private String passage = "";
    private int askedAhead;

    Sentences(Due due) throws IOException {
        this.due = due;
        for (String part : Files.readString(DOCUMENT).split("(?m)^## ")) {
            int end = part.indexOf('\n');
            String name = part.substring(0, end).replaceAll(":.*", "");
            String text = part.substring(end).replaceAll("(?m)^```.*$", " ").replaceAll("\\s+", " ").strip();
            sections.put(name, text);
            quoted.put(name, new boolean[text.length()]);
        }
    }

    /** What is asked from here on tests this passage. */
    void open(String section, String words) {
        close();
        passage = section + " \"" + words + "\": ";
        askedAhead = due.asked();
        due.holds(passage + "stands in the document", quote(section, words));
        askedAhead++;
    }

    void close() {
        if (!passage.isEmpty() && due.asked() == askedAhead) {
            due.holds(passage + "has a test", false);
        }
        passage = "";
    }

    void is(String call, long got, long want) {
        due.is(passage + call, got, want);
    }

    /** A passage that says nothing that a test could ask. */
    void plain(String section, String words) {
        close();
        due.holds(section + " \"" + words + "\" stands in the document", quote(section, words));
    }

    /** Passages may stand more than once in a section: the first one that is not quoted yet counts. */
    private boolean quote(String section, String words) {
        String text = sections.getOrDefault(section, "");
        for (int at = text.indexOf(words); at >= 0; at = text.indexOf(words, at + 1)) {
            if (!quoted.get(section)[at]) {
                java.util.Arrays.fill(quoted.get(section), at, at + words.length(), true);
                return true;
            }
        }
        return text.contains(words);
    }

    /** Each passage of a section that was not quoted is told as wrong. */
    void nothingLeft(String section) {
        close();
        due.holds(section + " is a section of the document", sections.containsKey(section));
        String text = sections.getOrDefault(section, "");
        StringBuilder left = new StringBuilder();
        for (int i = 0; i <= text.length(); i++) {
            if (i < text.length() && !quoted.get(section)[i]) {
                left.append(text.charAt(i));
            } else {
                if (left.toString().matches(".*[A-Za-z0-9].*")) {
                    due.holds(section + ": '" + left + "' is quoted by a test", false);
                }
                left.setLength(0);
            }
        }
    }

    /** The rows of a section that a reader needs, but no test: signs that part it, and the calls' heads. */
    void passOver(String section, String form) {
        java.util.regex.Matcher m = java.util.regex.Pattern.compile(form).matcher(sections.getOrDefault(section, ""));
        while (m.find()) {
            java.util.Arrays.fill(quoted.get(section), m.start(), m.end(), true);
        }
    }
}
