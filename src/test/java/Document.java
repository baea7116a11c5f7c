import java.io.IOException;
import java.nio.file.Files;
import java.nio.file.Path;
import java.util.ArrayList;
import java.util.LinkedHashMap;
import java.util.List;
import java.util.Map;

/** The sentences of ../shared/DOC.md, in the document's order, for each of its parts: "Section 1", "Promise 1" and so on. */
final class Document {
    private final Map<String, List<String>> parts = new LinkedHashMap<>();

    Document() throws IOException {
        String part = "Beginning";
        StringBuilder paragraph = new StringBuilder();
        boolean code = false;
        for (String line : Files.readAllLines(Path.of("../shared/DOC.md"))) {
            String text = line.trim();
            if (text.startsWith("```")) {
                code = !code;
            }
            String heading = heading(text);
            boolean apart = heading != null || text.isEmpty() || text.startsWith("- ") || text.startsWith("`")
                || text.startsWith("text = ") || text.startsWith("line = ") || text.matches("[1-5]: .*");
            if (apart || code) {
                add(part, paragraph);
            }
            if (heading != null) {
                part = heading;
            } else if (!code && !text.startsWith("#") && !text.startsWith("`") && !text.startsWith("----")) {
                paragraph.append(text).append(' ');
            }
        }
        add(part, paragraph);
    }

    private static String heading(String text) {
        if (text.matches("[1-6]\\. [A-Z].*") && !text.endsWith(".")) {
            return "Section " + text.charAt(0);
        }
        if (text.startsWith("## Promise ")) {
            return text.substring(3, text.indexOf(':'));
        }
        if (text.startsWith("Examples (") || text.equals("The constants:") || text.equals("## Not promised")) {
            return text.startsWith("Ex") ? "Examples" : text.startsWith("The") ? "Constants" : "Not promised";
        }
        return null;
    }

    private void add(String part, StringBuilder paragraph) {
        List<String> sentences = parts.computeIfAbsent(part, name -> new ArrayList<>());
        // A full stop ends a sentence if a capital or a bracket follows it.
        for (String sentence : paragraph.toString().split("(?<=\\.|\\.\\)) (?=[A-Z(])")) {
            if (!sentence.isBlank()) {
                sentences.add(sentence.trim());
            }
        }
        paragraph.setLength(0);
    }

    Iterable<String> parts() {
        return parts.keySet();
    }

    List<String> sentences(String part) {
        return parts.getOrDefault(part, List.of());
    }
}
