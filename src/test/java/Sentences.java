import java.io.IOException;
import java.nio.file.Files;
import java.nio.file.Path;
import java.util.ArrayList;
import java.util.LinkedHashMap;
import java.util.List;
import java.util.Map;

/** Runs a test for each sentence, which must stand in the document, in the section that is named. */
final class Sentences {
    private final Checks checks;
    private final Map<String, List<String>> sections = new LinkedHashMap<>();
    private final Map<String, List<String>> held = new LinkedHashMap<>();

    Sentences(Checks checks, String[] args) throws IOException {
        this.checks = checks;
        String section = "";
        for (String line : Files.readAllLines(Path.of(args.length > 1 ? args[1] : "../shared/DOC.md"))) {
            if (line.startsWith("#")) {
                section = line.replaceFirst("#+ ", "");
            } else if (!line.isBlank()) {
                sections.computeIfAbsent(section, key -> new ArrayList<>()).add(line);
            }
        }
    }

    void hold(String section, String sentence, Runnable test) {
        checks.begin(section + ": \"" + sentence + "\"");
        checks.holds("this stands in the document", linesOf(section).stream().anyMatch(line -> line.contains(sentence)));
        held.computeIfAbsent(section, key -> new ArrayList<>()).add(sentence);
        int before = checks.made();
        try {
            test.run();
        } catch (RuntimeException e) {
            checks.holds("no call throws " + e + " at " + e.getStackTrace()[0], false);
        }
        checks.holds("an answer was looked at", checks.made() > before);
    }

    /** No line of a section goes without a test. */
    void holdAllLines(String section) {
        checks.begin(section);
        checks.holds("the document has this section", !linesOf(section).isEmpty());
        for (String line : linesOf(section)) {
            checks.holds("a test for the line: " + line,
                    held.getOrDefault(section, List.of()).stream().anyMatch(line::contains));
        }
    }

    private List<String> linesOf(String section) {
        return sections.getOrDefault(section, List.of());
    }
}
