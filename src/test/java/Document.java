import java.io.IOException;
import java.nio.charset.StandardCharsets;
import java.nio.file.Files;
import java.nio.file.Path;
import java.util.ArrayList;
import java.util.LinkedHashMap;
import java.util.List;
import java.util.Map;

/** The document's sections, and which of their words a test has named as what it looks at. */
final class Document {
    private final Map<String, String> texts = new LinkedHashMap<>();
    private final Map<String, boolean[]> named = new LinkedHashMap<>();

    private Document() {
    }

    static Document read(Path path) throws IOException {
        Document document = new Document();
        String title = "";
        StringBuilder text = new StringBuilder();
        for (String line : Files.readString(path, StandardCharsets.UTF_8).split("\n")) {
            if (line.startsWith("#")) {
                document.add(title, text.toString());
                title = line.replaceAll("^#+ +(Promise (\\d+):.*)?", "$2");
                text.setLength(0);
            } else if (!line.startsWith("```")) {
                text.append(line).append(' ');
            }
        }
        document.add(title, text.toString());
        return document;
    }

    private void add(String title, String text) {
        String plain = text.replaceAll("\\s+", " ");
        texts.put(title, plain);
        named.put(title, new boolean[plain.length()]);
    }

    /** Answers whether the words stand in the section. */
    boolean name(String section, String words) {
        String text = texts.getOrDefault(section, "");
        boolean[] marks = named.get(section);
        int found = text.indexOf(words);
        for (int at = found; at >= 0; at = text.indexOf(words, at + 1)) {
            for (int sign = at; sign < at + words.length(); sign++) {
                marks[sign] = true;
            }
        }
        return found >= 0;
    }

    /** The words of these sections that no test has named. */
    List<String> unnamed(List<String> sections) {
        List<String> found = new ArrayList<>();
        for (String section : sections) {
            String text = texts.getOrDefault(section, "(there is no such section)");
            boolean[] marks = named.getOrDefault(section, new boolean[text.length()]);
            StringBuilder words = new StringBuilder();
            for (int at = 0; at <= text.length(); at++) {
                if (at < text.length() && !marks[at]) {
                    words.append(text.charAt(at));
                    continue;
                }
                if (words.toString().matches(".*[A-Za-z].*")) {
                    found.add(section + ": " + words.toString().trim());
                }
                words.setLength(0);
            }
        }
        return found;
    }
}
