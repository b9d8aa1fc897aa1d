import java.io.IOException;
import java.nio.file.Files;
import java.nio.file.Path;
import java.util.Arrays;
import java.util.LinkedHashMap;
import java.util.Map;

/** The document's sections, and which of their words a test has named. */
final class Document {
    private static final Path PATH = Path.of("../shared/DOC.md");

    private final Map<String, String> texts = new LinkedHashMap<>();
    private final Map<String, boolean[]> named = new LinkedHashMap<>();

    /** Without the file nothing is looked up: the tests themselves do not need it. */
    Document() throws IOException {
        if (!Files.exists(PATH)) {
            System.out.println("no " + PATH + ": sentences are not looked up there");
            return;
        }
        for (String part : Files.readString(PATH).split("\n## ")) {
            String title = part.split("[:\n]")[0];
            String body = part.substring(part.indexOf('\n') + 1)
                .replaceAll("(?m)^(```|Ahead of the calls).*$", "")
                .replaceAll("(?m)^`int [^`]*`: ", "")
                .replace("========", "").replace("`", "").replaceAll("\\s+", " ");
            texts.put(title, body);
            named.put(title, new boolean[body.length()]);
        }
    }

    private boolean isThere() {
        return !texts.isEmpty();
    }

    /** Whether the section has these words; they are named from now on. */
    boolean names(String section, String words) {
        if (!isThere()) {
            return true;
        }
        String text = texts.getOrDefault(section, "");
        int at = text.indexOf(words);
        boolean found = at >= 0;
        while (at >= 0) {
            Arrays.fill(named.get(section), at, at + words.length(), true);
            at = text.indexOf(words, at + 1);
        }
        return found;
    }

    /** The words of a section that no test has named. */
    String unnamed(String section) {
        StringBuilder rest = new StringBuilder();
        String text = texts.getOrDefault(section, "");
        for (int i = 0; i < text.length(); i++) {
            boolean isNamed = named.get(section)[i];
            rest.append(isNamed ? ' ' : text.charAt(i));
        }
        return rest.toString().replaceAll("\\s+", " ").trim();
    }
}
