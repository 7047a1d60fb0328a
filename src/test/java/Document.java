import java.io.IOException;
import java.nio.file.Files;
import java.nio.file.Path;
import java.util.ArrayList;
import java.util.LinkedHashSet;
import java.util.List;
import java.util.Set;
import java.util.regex.Pattern;

/** The sentences of the document's description and promises, each with the heading that it stands under. */
final class Document {
    static final Path PATH = Path.of("../shared/DOC.md");

    private static final Pattern HEADING = Pattern.compile("## Promise \\d+: .*|\\d\\. [A-Z ,]+|The constants:");
    private static final String SENTENCE_END = "(?<=\\.)\\s+|(?<=\\.\\))\\s+";

    private final Set<String> sentences = new LinkedHashSet<>();
    private final List<String> open = new ArrayList<>();
    private String heading = "";

    private Document() {
    }

    static Set<String> sentences() throws IOException {
        Document document = new Document();
        boolean inside = false;
        for (String line : Files.readAllLines(PATH)) {
            if (line.startsWith("## ")) {
                inside = line.equals("## Description") || line.startsWith("## Promise ");
            }
            document.close(!inside || line.isBlank() || line.startsWith("- ") || HEADING.matcher(line).matches());
            if (inside) {
                document.read(line);
            }
        }
        document.close(true);
        return document.sentences;
    }

    static String under(String heading, String sentence) {
        return heading + " | " + sentence;
    }

    private void read(String line) {
        if (HEADING.matcher(line).matches()) {
            heading = line.replace("## ", "");
        } else if (line.startsWith("- ")) {
            sentences.add(under(heading, line.substring(2)));
        } else if (!line.isBlank() && !line.startsWith("#") && !line.startsWith("`") && !line.startsWith("----")) {
            open.add(line.trim());
        }
    }

    private void close(boolean paragraphEnds) {
        if (paragraphEnds && !open.isEmpty()) {
            for (String sentence : String.join(" ", open).split(SENTENCE_END)) {
                sentences.add(under(heading, sentence));
            }
            open.clear();
        }
    }
}
