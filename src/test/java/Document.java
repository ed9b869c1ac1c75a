import java.io.IOException;
import java.nio.file.Files;
import java.nio.file.Path;
import java.util.ArrayList;
import java.util.LinkedHashMap;
import java.util.List;
import java.util.Map;

/**
 * The document's words, and which of them a test has quoted: so a test can't go on testing words
 * that the document no longer has, and no sentence of it is left without a test.
 */
final class Document {
    static final String START = "What it is", TERMS = "Terms";
    private static final Path PLACE = Path.of("../shared/DOC.md");

    private final Map<String, String> texts = new LinkedHashMap<>();
    private final Map<String, boolean[]> quoted = new LinkedHashMap<>();

    static Document read() {
        try {
            return new Document(Files.readString(PLACE));
        } catch (IOException e) {
            // The class can be tested without it.
            System.out.println(PLACE + " can't be read: no test's words are looked up there");
            return new Document("");
        }
    }

    boolean isThere() {
        return !texts.isEmpty();
    }

    private Document(String whole) {
        for (String section : whole.split("(?m)^## ")) {
            int end = section.indexOf('\n');
            if (end < 0) {
                continue;
            }
            String heading = section.substring(0, end).trim();
            String text = section.substring(end + 1);
            if (heading.equals(START)) {
                // The first paragraph only says what all the others say.
                keep(START, text.substring(text.trim().indexOf("\n")));
            } else if (heading.equals(TERMS)) {
                // What stands ahead of which call in the interface is nothing that an object does.
                keep(TERMS, text.replaceAll("(?m)^Ahead of the calls .*$", ""));
            } else if (heading.startsWith("Promise ")) {
                keep(heading.substring(0, heading.indexOf(':')), text.replaceFirst("`[^`]*`", ""));
            }
        }
    }

    private void keep(String section, String text) {
        String plain = text.replace("```text", " ").replace("```", " ").replaceAll("={8} \\d", " ")
            .replaceAll("\\s+", " ");
        texts.put(section, plain);
        quoted.put(section, new boolean[plain.length()]);
    }

    /** Whether the section has these words; they count as quoted from now on. */
    boolean quotes(String section, String words) {
        String text = texts.get(section);
        if (text == null || words.isEmpty()) {
            return false;
        }
        int at = text.indexOf(words);
        boolean found = at >= 0;
        while (at >= 0) {
            for (int i = at; i < at + words.length(); i++) {
                quoted.get(section)[i] = true;
            }
            at = text.indexOf(words, at + 1);
        }
        return found;
    }

    List<String> unquoted() {
        List<String> left = new ArrayList<>();
        texts.forEach((section, text) -> {
            StringBuilder rest = new StringBuilder();
            for (int i = 0; i < text.length(); i++) {
                rest.append(quoted.get(section)[i] ? '|' : text.charAt(i));
            }
            for (String part : rest.toString().split("\\|+")) {
                if (part.matches(".*[A-Za-z0-9].*")) {
                    left.add(section + ": " + part.trim());
                }
            }
        });
        return left;
    }
}
