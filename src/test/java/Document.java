import java.io.IOException;
import java.nio.file.Files;
import java.nio.file.Path;
import java.util.LinkedHashMap;
import java.util.Map;

/** The document, by its sections; read where the project's root is. */
final class Document {
    static final String BEGINNING = "What it is", TERMS = "Terms";

    private final Map<String, String> sections = new LinkedHashMap<>();

    Document() {
        String all;
        try {
            all = Files.readString(Path.of("../shared/DOC.md"));
        } catch (IOException gone) {
            throw new IllegalStateException("../shared/DOC.md can not be read", gone);
        }
        for (String section : all.split("(?m)^## ")) {
            int end = section.indexOf('\n');
            if (end > 0) {
                sections.put(section.substring(0, end).trim(), section.substring(end + 1));
            }
        }
    }

    /** The words of a promise, without its heading. */
    String promise(int number) {
        for (Map.Entry<String, String> section : sections.entrySet()) {
            if (section.getKey().startsWith("Promise " + number + ":")) {
                return section.getValue();
            }
        }
        throw new IllegalStateException("no promise " + number);
    }

    String section(String heading) {
        String words = sections.get(heading);
        if (words == null) {
            throw new IllegalStateException("no section " + heading);
        }
        return words;
    }
}
