import java.io.IOException;
import java.nio.file.Files;
import java.nio.file.Path;
import java.util.ArrayList;
import java.util.LinkedHashMap;
import java.util.List;
import java.util.Map;

/** The sections of the document, and which of their words were quoted. */
final class Doc {
    private final Map<String, String> texts = new LinkedHashMap<>();
    private final Map<String, boolean[]> quoted = new LinkedHashMap<>();

    Doc(Path file) throws IOException {
        Map<String, StringBuilder> parts = new LinkedHashMap<>();
        String section = "";
        boolean code = false;
        for (String line : Files.readAllLines(file)) {
            if (line.startsWith("```")) {
                code = !code;
            } else if (line.startsWith("#")) {
                section = line.replaceAll("^#+ ", "").replaceAll(":.*", "");
            } else if (!code && !line.matches("`[^`]*`")) {
                parts.computeIfAbsent(section, s -> new StringBuilder()).append(line).append('\n');
            }
        }
        for (Map.Entry<String, StringBuilder> part : parts.entrySet()) {
            String text = words(part.getValue().toString());
            texts.put(part.getKey(), text);
            quoted.put(part.getKey(), new boolean[text.length()]);
        }
    }

    /** The same words with single blanks between them. */
    private static String words(String text) {
        return text.replaceAll("\\s+", " ").trim();
    }

    /** Marks a quotation; answers whether the section has it. */
    boolean quote(String section, String sentence) {
        String text = texts.getOrDefault(section, "");
        String words = words(sentence);
        boolean found = false;
        for (int at = text.indexOf(words); at >= 0; at = text.indexOf(words, at + 1)) {
            found = true;
            for (int i = at; i < at + words.length(); i++) {
                quoted.get(section)[i] = true;
            }
        }
        return found;
    }

    /** What nobody quoted, a text for each gap. */
    List<String> unquoted() {
        List<String> gaps = new ArrayList<>();
        for (Map.Entry<String, String> entry : texts.entrySet()) {
            String text = entry.getValue();
            boolean[] marks = quoted.get(entry.getKey());
            for (int i = 0; i < text.length(); i++) {
                int begin = i;
                while (i < text.length() && !marks[i]) {
                    i++;
                }
                if (!text.substring(begin, i).isBlank()) {
                    gaps.add(entry.getKey() + ": " + text.substring(begin, i).trim());
                }
            }
        }
        return gaps;
    }
}
