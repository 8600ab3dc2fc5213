import java.io.IOException;
import java.nio.file.Files;
import java.nio.file.Path;
import java.util.LinkedHashMap;
import java.util.Map;

/** The document, cut into its parts. It is read in the project's directory. */
final class Doc {
    private static final String[] PARAGRAPHS = {
        "Values", "Bounds", "Memory", "Compartments", "Calls", "Traps", "Heap", "Reach", "Exceptions", "Clarifications",
    };

    private Doc() {
    }

    /** The words of each part behind its heading, with one blank between each two. */
    static Map<String, String> parts() throws IOException {
        Map<String, String> parts = new LinkedHashMap<>();
        for (String section : Files.readString(Path.of("../shared/DOC.md")).split("\n## ")) {
            String heading = section.lines().findFirst().orElse("").replaceAll(":.*", "");
            String words = section.substring(section.indexOf('\n') + 1);
            if (heading.equals("Terms")) {
                cutTerms(parts, words);
            } else {
                parts.put(heading, plain(words));
            }
        }
        return parts;
    }

    private static void cutTerms(Map<String, String> parts, String words) {
        String name = "Terms";
        String rest = words;
        for (String next : PARAGRAPHS) {
            String[] cut = rest.split("\n\n" + next + "\\. ", 2);
            parts.put(name, plain(cut[0]));
            name = next;
            rest = cut.length == 2 ? cut[1] : "";
        }
        parts.put(name, plain(rest));
    }

    static String plain(String words) {
        return words.replaceAll("\\s+", " ").strip();
    }
}
