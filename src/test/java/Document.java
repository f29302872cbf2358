import java.io.IOException;
import java.nio.file.Files;
import java.nio.file.Path;
import java.util.ArrayList;
import java.util.HashMap;
import java.util.List;
import java.util.Map;

/** The document's sentences: which of them a test has named. */
final class Document {
    private static final Path PLACE = Path.of("../shared/DOC.md");

    /** The text under each heading, on one line, and what of it was named. */
    private final Map<String, String> parts = new HashMap<>();
    private final Map<String, boolean[]> named = new HashMap<>();

    Document() throws IOException {
        for (String part : Files.readString(PLACE).split("(?m)^## ")) {
            String heading = part.lines().findFirst().orElse("").replaceAll(":.*", "").strip();
            String text = onOneLine(part.substring(part.indexOf('\n') + 1));
            parts.put(heading, text);
            named.put(heading, new boolean[text.length()]);
        }
    }

    private static String onOneLine(String text) {
        // How the document is set, and what it says of remarks in the source, is no sentence of a promise.
        String bare = text.replaceAll("(?m)^Ahead of the calls .*$", "").replaceAll("```(text|java)?", "");
        return bare.replaceAll("={8} \\d", "").replaceAll("(?m)^`[^`]*`: ", "").replaceAll("\\s+", " ").strip();
    }

    /** Answers whether a sentence stands in a promise, in the terms, or in what is said of the class. */
    boolean name(int promise, String sentence) {
        boolean found = false;
        for (String heading : new String[] {"Promise " + promise, "Terms", "What it is", "Not promised"}) {
            String text = parts.getOrDefault(heading, "");
            for (int at = text.indexOf(sentence); at >= 0; at = text.indexOf(sentence, at + 1)) {
                for (int i = at; i < at + sentence.length(); i++) named.get(heading)[i] = true;
                found = true;
            }
            if (found) return true;
        }
        return false;
    }

    /** What of the terms and of the promises no test has named. */
    List<String> unnamed() {
        List<String> unnamed = new ArrayList<>();
        for (String heading : parts.keySet()) {
            if (!heading.startsWith("Promise") && !heading.equals("Terms")) continue;
            StringBuilder rest = new StringBuilder();
            String text = parts.get(heading);
            for (int i = 0; i < text.length(); i++) rest.append(named.get(heading)[i] ? '\n' : text.charAt(i));
            rest.toString().lines().filter(one -> one.matches(".*[A-Za-z0-9].*"))
                .forEach(one -> unnamed.add(heading + ": " + one.strip()));
        }
        return unnamed;
    }
}
