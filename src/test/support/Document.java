import java.io.IOException;
import java.io.UncheckedIOException;
import java.nio.file.Files;
import java.nio.file.Path;
import java.util.LinkedHashMap;
import java.util.Map;
import java.util.regex.Matcher;
import java.util.regex.Pattern;

/** The document that says what the class must do. */
final class Document {
    private static final Path FILE = Path.of("../shared/DOC.md");
    private static final Pattern PROMISE = Pattern.compile("Promise (\\d+): .*");
    private static final Map<String, String> SECTIONS = read();

    private Document() {
    }

    static String read(Path file) {
        try {
            return Files.readString(file);
        } catch (IOException e) {
            throw new UncheckedIOException(e);
        }
    }

    private static Map<String, String> read() {
        Map<String, String> sections = new LinkedHashMap<>();
        for (String section : read(FILE).split("\n## ")) {
            String heading = section.split("\n", 2)[0];
            Matcher promise = PROMISE.matcher(heading);
            sections.put(promise.matches() ? promise.group(1) : heading, section);
        }
        return sections;
    }

    /** What stands under a heading, which is named by its words or, for a promise, by its number. */
    static String section(String place) {
        return SECTIONS.getOrDefault(place, "");
    }

    /** Whether a place, or the terms that bind it, has these words; " [..] " stands for words left out. */
    static boolean says(String place, String words) {
        return has(section(place), words) || has(section("Terms"), words);
    }

    private static boolean has(String section, String words) {
        String line = section.replaceAll("\\s+", " ");
        int behind = 0;
        for (String part : words.split(Pattern.quote(" [..] "))) {
            int found = line.indexOf(part, behind);
            if (found < 0) {
                return false;
            }
            behind = found + part.length();
        }
        return true;
    }
}
