import java.io.IOException;
import java.nio.file.Files;
import java.nio.file.Path;
import java.util.ArrayList;
import java.util.LinkedHashMap;
import java.util.List;
import java.util.Map;
import java.util.Set;
import java.util.regex.Matcher;
import java.util.regex.Pattern;

/** The document by its headings, and which of its edges stand in no sentence that was quoted. */
final class Document {
    /** Nearly all edges are told by a number or by the name of an error. */
    private static final Pattern EDGE = Pattern.compile("\\d+|[A-Z]+_[A-Z]+");
    /** The one holds the methods alone, which FaceTest looks at; the other promises nothing. */
    private static final Set<String> WITHOUT_EDGES = Set.of("The public face", "Not promised");

    private final Map<String, String> bodies = new LinkedHashMap<>();
    private final Map<String, List<String>> quotes = new LinkedHashMap<>();

    Document(Path file) throws IOException {
        String heading = "";
        for (String line : Files.readAllLines(file)) {
            if (line.startsWith("#")) {
                heading = line.replaceFirst("^#+ ", "");
                quotes.put(heading, new ArrayList<>());
            } else {
                bodies.merge(heading, line + "\n", String::concat);
            }
        }
    }

    /** Answers whether the sentence stands under the heading, which is told as "Rounds" or "Promise 3". */
    boolean quote(String under, String sentence) {
        for (String heading : quotes.keySet()) {
            boolean isIt = heading.equals(under) || heading.startsWith(under + ":");
            if (isIt && bodies.getOrDefault(heading, "").contains(sentence)) {
                quotes.get(heading).add(sentence);
                return true;
            }
        }
        return false;
    }

    List<String> edgesNotQuoted() {
        List<String> left = new ArrayList<>();
        for (String heading : quotes.keySet()) {
            String body = bodies.getOrDefault(heading, "");
            Matcher edge = EDGE.matcher(body);
            while (!WITHOUT_EDGES.contains(heading) && edge.find()) {
                if (!isQuoted(heading, edge.start(), edge.end())) {
                    String behind = body.substring(edge.start(), Math.min(edge.start() + 60, body.length()));
                    left.add(heading + ": \"" + behind.lines().findFirst().orElse("") + "\"");
                }
            }
        }
        return left;
    }

    private boolean isQuoted(String heading, int start, int end) {
        String body = bodies.get(heading);
        for (String sentence : quotes.get(heading)) {
            for (int at = body.indexOf(sentence); at >= 0; at = body.indexOf(sentence, at + 1)) {
                if (at <= start && end <= at + sentence.length()) {
                    return true;
                }
            }
        }
        return false;
    }
}
