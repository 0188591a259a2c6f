import java.io.IOException;
import java.nio.file.Files;
import java.nio.file.Path;
import java.util.ArrayList;
import java.util.Comparator;
import java.util.LinkedHashMap;
import java.util.List;
import java.util.Map;

/** A sentence of the document, or a part of one, with the scripts that fail if it is broken. */
final class Sentence {
    private static final Path DOCUMENT = Path.of("../shared/DOC.md");
    private static final Map<String, List<String>> TESTED = new LinkedHashMap<>();
    private static final String ONLY = System.getProperty("only", "");

    private final String name;

    private Sentence(String name) {
        this.name = name;
    }

    /** A sentence as it stands under a heading, "Terms" or "Promise 7"; it may lack its last sign. */
    static Sentence of(String heading, String words) {
        TESTED.computeIfAbsent(heading, key -> new ArrayList<>()).add(words);
        return new Sentence(heading + ": " + words);
    }

    Sentence on(String text, String... steps) {
        if (ONLY.isEmpty() || name.contains(ONLY)) {
            Check.about(name);
            Script.run(text, steps);
            Check.about("");
        }
        return this;
    }

    /** Looks whether the sentences that were tested are the document's, and leave none of it out. */
    static void end() throws IOException {
        if (Files.exists(DOCUMENT)) {
            String[] sections = Files.readString(DOCUMENT).split("(?m)^## ");
            for (String heading : TESTED.keySet()) {
                for (String section : sections) {
                    if (section.matches("(?s)" + heading + "(:.*|\\n.*)")) {
                        compare(heading, section.substring(section.indexOf('\n')));
                    }
                }
            }
        }
        Check.end();
    }

    private static void compare(String heading, String section) {
        String words = section.replaceAll("(?s)The constants: .*", "").replaceAll("(?m)^```.*$", "")
            .replaceAll("(?m)^`[^`]*`: ", "").replaceAll("\\s+", " ").trim();
        String left = words;
        List<String> sorted = new ArrayList<>(TESTED.get(heading));
        sorted.sort(Comparator.comparingInt(String::length).reversed());
        for (String sentence : sorted) {
            Check.isTrue(heading + " says: " + sentence + " and this", words.contains(sentence));
            left = left.replace(sentence, "");
        }
        Check.equal("what no test is about in " + heading, left.replaceAll("[\\s.,;:-]+", ""), "");
    }
}
