import java.io.IOException;
import java.nio.file.Files;
import java.nio.file.Path;
import java.util.ArrayList;
import java.util.BitSet;
import java.util.LinkedHashMap;
import java.util.List;
import java.util.Map;

/** The document's sections, and which of their words were quoted over a test. */
final class Doc {
    private final Map<String, String> sections = new LinkedHashMap<>();
    private final Map<String, BitSet> quoted = new LinkedHashMap<>();

    Doc(Path file) throws IOException {
        for (String part : Files.readString(file).split("(?m)^## ")) {
            String heading = part.lines().findFirst().orElse("").replaceAll(":.*", "").trim();
            if (heading.equals("Terms") || heading.startsWith("Promise ")) {
                String body = part.substring(part.indexOf('\n') + 1);
                sections.put(heading, plain(body));
                quoted.put(heading, new BitSet());
            }
        }
    }

    /** Without fences, the signature at the head of a promise, and line ends. */
    private static String plain(String body) {
        return body.replaceAll("```(text)?", " ").replaceAll("\\s+", " ").trim()
                .replaceFirst("^`[^`]*`: ", "");
    }

    /** Whether the words stand there; they are quoted then. */
    boolean quote(String heading, String words) {
        String text = sections.getOrDefault(heading, "");
        int at = text.indexOf(words);
        if (at < 0) {
            return false;
        }
        quoted.get(heading).set(at, at + words.length());
        return true;
    }

    /** What stands in the sections and was never quoted, but for blanks and the like. */
    List<String> unquoted() {
        List<String> left = new ArrayList<>();
        for (String heading : sections.keySet()) {
            String text = sections.get(heading);
            BitSet seen = quoted.get(heading);
            for (int at = seen.nextClearBit(0); at < text.length(); at = seen.nextClearBit(at)) {
                int next = seen.nextSetBit(at);
                int end = next < 0 ? text.length() : next;
                String words = text.substring(at, end).trim();
                if (words.matches("(?s).*[A-Za-z0-9].*")) {
                    left.add(heading + ": " + words);
                }
                at = end;
            }
        }
        return left;
    }

    int promises() {
        return (int) sections.keySet().stream().filter(heading -> heading.startsWith("Promise ")).count();
    }
}
