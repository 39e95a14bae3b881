import java.io.IOException;
import java.nio.file.Files;
import java.nio.file.Path;
import java.util.ArrayList;
import java.util.Comparator;
import java.util.LinkedHashMap;
import java.util.LinkedHashSet;
import java.util.List;
import java.util.Map;
import java.util.Set;

/** The document, by its headings: what a test quotes must stand there, so that no test holds a sentence of its own. */
final class Document {
    private static final Path FILE = Path.of("..", "shared", "DOC.md");
    private static final Map<String, String> SECTIONS = read();
    private static final Set<Quote> QUOTES = new LinkedHashSet<>();

    private record Quote(String heading, String words) {
    }

    private Document() {
    }

    /** The lines under each heading. */
    private static Map<String, String> read() {
        Map<String, String> sections = new LinkedHashMap<>();
        String heading = "";
        try {
            for (String line : Files.readAllLines(FILE)) {
                if (line.startsWith("## ")) {
                    heading = line.substring(3);
                } else {
                    sections.merge(heading, line.strip() + "\n", String::concat);
                }
            }
        } catch (IOException e) {
            System.out.println("no document at " + FILE + ": the quotes are not compared with it");
        }
        return sections;
    }

    /** Without the document, every quote passes: the answers are due all the same. */
    static boolean says(String heading, String words) {
        QUOTES.add(new Quote(heading, words));
        return SECTIONS.isEmpty() || SECTIONS.containsKey(heading) && SECTIONS.get(heading).contains(words);
    }

    static int quotes() {
        return QUOTES.size();
    }

    /**
     * What is left of each line under the headings of terms and promises when all quotes are taken out, and with them
     * the signatures of methods and what just says that a parameter is a model.
     */
    static List<String> unquoted() {
        List<Quote> longestFirst = new ArrayList<>(QUOTES);
        longestFirst.sort(Comparator.comparingInt(q -> -q.words.length()));
        List<String> rest = new ArrayList<>();
        SECTIONS.forEach((heading, text) -> {
            String left = heading.equals("Terms") || heading.startsWith("Promise ") ? text : "";
            for (Quote q : longestFirst) {
                left = q.heading.equals(heading) ? left.replace(q.words, "") : left;
            }
            for (String line : left.split("\n")) {
                String words = line.replaceFirst("^`.*\\)[^`]*`:", "").replaceFirst("^- `[a-z]*`: a model$", "");
                words = words.replaceAll("^[-.,;: ]+|[,;: ]+$", "").replaceAll(" +", " ");
                if (!words.isEmpty()) {
                    rest.add(words);
                }
            }
        });
        return rest;
    }
}
