import java.io.IOException;
import java.io.UncheckedIOException;
import java.nio.file.Files;
import java.nio.file.Path;
import java.util.List;
import java.util.stream.Collectors;

/** The document's own words, so that the tests are held against them and not against a copy. */
final class Document {
    private static final Path FILE = Path.of("..", "shared", "DOC.md");
    private static final String HEADING = "## ";
    private static final String FENCE = "```";

    private Document() {
    }

    static List<String> linesOf(Path file) {
        try {
            return Files.readAllLines(file);
        } catch (IOException e) {
            throw new UncheckedIOException(e);
        }
    }

    static List<String> headings() {
        return linesOf(FILE).stream().filter(line -> line.startsWith(HEADING))
                .map(line -> line.substring(HEADING.length())).collect(Collectors.toList());
    }

    /** The lines of the public face, without those of the code block's fence and the last bracket. */
    static List<String> faceLines() {
        return section("The public face").stream().map(String::strip)
                .filter(line -> !line.isEmpty() && !line.startsWith(FENCE) && !line.equals("}"))
                .collect(Collectors.toList());
    }

    static String wordsOf(String heading) {
        return String.join(" ", section(heading)).strip().replaceAll("\\s+", " ");
    }

    private static List<String> section(String heading) {
        return linesOf(FILE).stream().dropWhile(line -> !line.equals(HEADING + heading)).skip(1)
                .takeWhile(line -> !line.startsWith(HEADING)).collect(Collectors.toList());
    }
}
