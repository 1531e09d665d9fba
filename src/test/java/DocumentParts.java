import java.io.IOException;
import java.nio.file.Files;
import java.nio.file.Path;
import java.util.LinkedHashMap;
import java.util.Map;
import java.util.regex.Matcher;
import java.util.regex.Pattern;

/** The document cut into the parts that sentences are looked up in; breaks of lines are blanks. */
final class DocumentParts {
    private static final Path DOCUMENT = Path.of("../shared/DOC.md");
    private static final Pattern HEADING = Pattern.compile("(?m)^(?:## (What it is|Terms|Promise \\d+|.*?)(?::.*)?|======== (\\d) .*)$");

    private DocumentParts() {
    }

    static Map<String, String> read() throws IOException {
        String text = Files.readString(DOCUMENT);
        Map<String, String> parts = new LinkedHashMap<>();
        Matcher heading = HEADING.matcher(text);
        String name = "";
        int from = 0;
        while (heading.find()) {
            parts.merge(name, plain(text.substring(from, heading.start())), (a, b) -> a + " " + b);
            boolean isPartOfTerms = heading.group(2) != null;
            name = isPartOfTerms ? "Terms " + heading.group(2) : heading.group(1);
            from = isPartOfTerms ? heading.start() : heading.end();
        }
        parts.put(name, plain(text.substring(from)));
        return parts;
    }

    private static String plain(String text) {
        return text.replaceAll("(?m)^```.*$", " ").replaceAll("\\s+", " ").trim();
    }
}
