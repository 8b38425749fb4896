import java.io.IOException;
import java.nio.charset.StandardCharsets;
import java.nio.file.Files;
import java.nio.file.Path;
import java.util.ArrayList;
import java.util.LinkedHashMap;
import java.util.List;
import java.util.Map;

/** ../shared/DOC.md, cut into its sections and these into their sentences. */
final class Document {
    private final Map<String, List<String>> lines = new LinkedHashMap<>();

    /** The document beside the project whose root is told; null if there is none. */
    static Document besideRoot(String root) throws IOException {
        Path path = Path.of(root).toAbsolutePath().normalize().resolveSibling("shared/DOC.md");
        return Files.isRegularFile(path) ? new Document(path) : null;
    }

    private Document(Path path) throws IOException {
        String section = "";
        boolean isCode = false;
        for (String line : Files.readAllLines(path, StandardCharsets.UTF_8)) {
            isCode ^= line.startsWith("```");
            String title = titleIn(line);
            if (title != null) {
                section = title;
            } else if (!isCode && !line.startsWith("```")) {
                String text = plain(line.startsWith("- ") ? line.substring(2) : line);
                if (!text.isEmpty() && !isSignature(line)) {
                    lines.computeIfAbsent(section, s -> new ArrayList<>()).add(text);
                }
            }
        }
    }

    private static String titleIn(String line) {
        if (line.matches("## Promise \\d+: .*")) {
            return line.substring(3, line.indexOf(':'));
        }
        return line.startsWith("#") ? line.replaceAll("^#+ ", "")
                : line.matches("[A-Z ]{6,}(\\(.*\\))?") ? line.replaceAll(" \\(.*", "") : null;
    }

    private static boolean isSignature(String line) {
        return line.startsWith("`") && line.endsWith("`");
    }

    static String plain(String text) {
        return text.replace("`", "").replaceAll("\\s+", " ").trim();
    }

    boolean says(String section, String sentence) {
        return String.join(" ", lines.getOrDefault(section, List.of())).contains(plain(sentence));
    }

    List<String> sections() {
        return new ArrayList<>(lines.keySet());
    }

    /** The sentences of a section, and the parts of those that are lists with a semicolon. */
    List<String> sentences(String section) {
        List<String> sentences = new ArrayList<>();
        for (String line : lines.getOrDefault(section, List.of())) {
            for (String part : line.split("(?<=[.;])\\s+")) {
                sentences.add(part.replaceAll("[.;]$", ""));
            }
        }
        return sentences;
    }
}
