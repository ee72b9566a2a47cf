import java.io.IOException;
import java.nio.file.Files;
import java.nio.file.Path;
import java.util.ArrayList;
import java.util.BitSet;
import java.util.LinkedHashMap;
import java.util.List;
import java.util.Map;

/** ../shared/DOC.md in parts, and which words of them have been quoted by a test. */
final class Document {
    static final Path PLACE = Path.of("../shared/DOC.md");
    private static final int[] LAST_OF_SECTION = {5, 11, 16, 21, 32};

    private final Map<String, String> parts = new LinkedHashMap<>();
    private final Map<String, BitSet> quoted = new LinkedHashMap<>();

    Document() throws IOException {
        String part = "";
        for (String line : Files.readAllLines(PLACE)) {
            if (line.startsWith("## Promise ")) {
                part = "promise " + line.substring(11, line.indexOf(':'));
            } else if (line.startsWith("## ")) {
                part = line.substring(3);
            } else if (line.startsWith("==== ")) {
                part = "section " + line.charAt(5);
            }
            boolean isText = !line.startsWith("#") && !line.startsWith("```") && !line.startsWith("Ahead of the calls");
            if (isText) {
                parts.merge(part, line.strip(), (a, b) -> (a + " " + b).strip());
            }
        }
        // A promise begins with the face of its call, which FaceTest looks at.
        parts.replaceAll((name, text) -> text.replaceAll("^`[^`]*`: |^==== \\d ", ""));
        parts.keySet().forEach(name -> quoted.put(name, new BitSet()));
    }

    /** Whether a test of a promise may quote this: it stands in it, its section or a part for all. */
    boolean quote(int promise, String words) {
        boolean found = false;
        for (String part : partsFor(promise)) {
            String text = parts.getOrDefault(part, "");
            for (int at = text.indexOf(words); at >= 0; at = text.indexOf(words, at + 1)) {
                quoted.get(part).set(at, at + words.length());
                found = true;
            }
        }
        return found && !words.isEmpty();
    }

    private static List<String> partsFor(int promise) {
        List<String> names = new ArrayList<>(List.of("Terms", "What it is", "Not promised"));
        if (promise > 0) {
            names.add("promise " + promise);
            int section = 1;
            while (promise > LAST_OF_SECTION[section - 1]) {
                section++;
            }
            names.add("section " + section);
        }
        return names;
    }

    /** What no test has quoted of the terms, the sections and the promises. */
    List<String> unquoted() {
        List<String> left = new ArrayList<>();
        for (Map.Entry<String, String> part : parts.entrySet()) {
            boolean isBinding = part.getKey().matches("Terms|section \\d|promise \\d+");
            StringBuilder words = new StringBuilder();
            for (int at = 0; at < part.getValue().length(); at++) {
                words.append(quoted.get(part.getKey()).get(at) ? '\n' : part.getValue().charAt(at));
            }
            for (String gap : words.toString().split("\n")) {
                if (isBinding && gap.matches(".*\\w.*")) {
                    left.add(part.getKey() + ": " + gap.strip());
                }
            }
        }
        return left;
    }
}
