import java.io.IOException;
import java.nio.file.Files;
import java.nio.file.Path;
import java.util.ArrayList;
import java.util.LinkedHashMap;
import java.util.List;
import java.util.Map;

/** The document's sentences: each that names a boundary is quoted, word by word, by a test of its own. */
final class Sentences {
    private static final Path DOCUMENT = Path.of("../shared/DOC.md");
    private static final List<String> WITHOUT_BOUNDARIES = List.of("What it is", "The public face", "Not promised");

    private final Map<String, List<String>> lines = new LinkedHashMap<>();
    private final Map<String, List<String>> quotes = new LinkedHashMap<>();
    private String section = "";

    Sentences() throws IOException {
        for (String line : Files.readAllLines(DOCUMENT)) {
            if (line.startsWith("#")) {
                section = line.replaceFirst("#+ ", "");
                lines.put(section, new ArrayList<>());
            } else if (!line.isBlank() && !section.isEmpty()) {
                lines.get(section).add(line);
            }
        }
    }

    /** The next sentences are of this section; a promise is named by its heading. */
    void of(String heading) {
        section = heading;
        Checks.holds("the document has the section " + heading, lines.containsKey(heading));
    }

    void sentence(String words, Checks.Call test) {
        quotes.computeIfAbsent(section, any -> new ArrayList<>()).add(words);
        boolean said = lines.getOrDefault(section, List.of()).stream().anyMatch(line -> line.contains(words));
        Checks.holds("the document says, in " + section + ": " + words, said);
        int right = Checks.rightOnes();
        int wrong = Checks.wrongOnes();
        Class<?> thrown = Checks.thrownBy(test);
        Checks.holds("no " + thrown + " ends the test", thrown == null);
        Checks.holds("the test looks at an answer", Checks.rightOnes() + Checks.wrongOnes() > right + wrong + 1);
        if (Checks.wrongOnes() > wrong) {
            System.out.println("  BROKEN, " + section + ": " + words);
        }
    }

    /** Each line of the document that could name a boundary has a sentence that is quoted. */
    void areAllQuoted() {
        for (String heading : lines.keySet()) {
            if (WITHOUT_BOUNDARIES.contains(heading)) {
                continue;
            }
            List<String> quoted = quotes.getOrDefault(heading, List.of());
            for (String line : lines.get(heading)) {
                boolean isQuoted = line.startsWith("Ahead of the calls") || quoted.stream().anyMatch(line::contains);
                Checks.holds("a sentence is quoted, in " + heading + ", of: " + line, isQuoted);
            }
        }
    }
}
