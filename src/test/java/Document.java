import java.io.IOException;
import java.nio.file.Files;
import java.nio.file.Path;
import java.util.LinkedHashMap;
import java.util.Map;

/** ../shared/DOC.md by its parts, and which of its words have been quoted beside a test. */
final class Document {
    private static final Path FILE = Path.of("../shared/DOC.md");
    private final Map<String, String> parts = new LinkedHashMap<>();
    private final Map<String, boolean[]> quoted = new LinkedHashMap<>();

    Document() throws IOException {
        String text = Files.readString(FILE).replace("```text", " ").replace("```", " ").replaceAll("\\s+", " ");
        keep("What it is", between(text, "## What it is ", "## The public face "));
        keep("Terms 1", between(text, "==== 1 ", "==== 2 "));
        keep("Terms 2", between(text, "==== 2 ", "Details. "));
        keep("Details", between(text, "Details. ", "Ahead of the calls "));
        for (int n = 1; text.contains("## Promise " + n + ": "); n++) {
            String next = text.contains("## Promise " + (n + 1) + ": ") ? "## Promise " + (n + 1) + ": " : "## Not promised ";
            keep("Promise " + n, between(text, "## Promise " + n + ": ", next).replaceFirst("^[^`]*`[^`]*`: ", ""));
        }
    }

    private static String between(String text, String from, String to) {
        int start = text.indexOf(from);
        int end = text.indexOf(to, start + from.length());
        if (start < 0 || end < 0) return "";
        return text.substring(start + from.length(), end).trim();
    }

    private void keep(String part, String text) {
        parts.put(part, text);
        quoted.put(part, new boolean[text.length()]);
    }

    /** Whether the words stand in that part of the document; they are quoted from now on. */
    boolean quote(String part, String words) {
        String text = parts.getOrDefault(part, "");
        boolean found = false;
        for (int at = text.indexOf(words); at >= 0; at = text.indexOf(words, at + 1)) {
            for (int i = at; i < at + words.length(); i++) quoted.get(part)[i] = true;
            found = true;
        }
        return found;
    }

    /** By part, the words that nothing has quoted. */
    Map<String, String> unquoted() {
        Map<String, String> left = new LinkedHashMap<>();
        for (String part : parts.keySet()) {
            StringBuilder words = new StringBuilder();
            for (int i = 0; i < parts.get(part).length(); i++) {
                if (!quoted.get(part)[i]) words.append(parts.get(part).charAt(i));
            }
            if (words.toString().matches(".*[A-Za-z0-9].*")) left.put(part, words.toString().trim());
        }
        return left;
    }

    int promises() {
        return parts.size() - 4;
    }
}
