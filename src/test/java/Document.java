import java.io.IOException;
import java.nio.file.Files;
import java.nio.file.Path;
import java.util.ArrayList;
import java.util.LinkedHashMap;
import java.util.List;
import java.util.Map;

/**
 * The sentences of the document. Each test of an edge says first which sentences it is about; so
 * a sentence that no test is about, or that the document no longer has, is seen.
 */
final class Document {
    static final String TERMS = "Terms";
    private static final Path PATH = Path.of("../shared/DOC.md");
    private static final Map<String, String> SECTIONS = sections();
    private static final Map<String, List<String>> SAID = new LinkedHashMap<>();
    private static int askedBefore = -1;
    private static String lastSaid = "";

    private Document() {
    }

    /** The text of each section in one line, by its heading; a promise's without its signature. */
    private static Map<String, String> sections() {
        Map<String, String> found = new LinkedHashMap<>();
        String heading = "";
        for (String line : lines()) {
            if (line.startsWith("## ")) {
                heading = line.substring(3).replaceAll("(Promise \\d+): .*", "$1");
            } else {
                found.merge(heading, plain(line), (text, more) -> plain(text + " " + more));
            }
        }
        found.replaceAll((name, text) ->
            name.startsWith("Promise ") ? text.replaceFirst("^`[^`]*`: ", "") : text);
        return found;
    }

    private static List<String> lines() {
        try {
            return Files.readAllLines(PATH);
        } catch (IOException e) {
            throw new IllegalStateException(e);
        }
    }

    private static String plain(String text) {
        return text.replaceAll("\\s+", " ").trim();
    }

    /** The checks that follow are about these sentences of a promise. */
    static void says(int promise, String... sentences) {
        says("Promise " + promise, sentences);
    }

    /** The checks that follow are about these sentences of a section. */
    static void says(String heading, String... sentences) {
        endOfLast();
        for (String sentence : sentences) {
            boolean stands = SECTIONS.getOrDefault(heading, "").contains(sentence);
            if (!stands) {
                Check.same("the document's " + heading + " has '" + sentence + "'", false, true);
            }
            SAID.computeIfAbsent(heading, name -> new ArrayList<>()).add(sentence);
        }
        lastSaid = heading + ", " + sentences[0];
        Check.about(lastSaid);
        askedBefore = Check.asked();
    }

    private static void endOfLast() {
        if (askedBefore == Check.asked()) {
            Check.same("checks of '" + lastSaid + "'", "none", "some");
        }
    }

    /** Sees that each sentence of a section was said, but for those that need no test. */
    static void allSaid(String heading, List<String> besides) {
        endOfLast();
        askedBefore = -1;
        Check.about(heading);
        List<String> known = new ArrayList<>(SAID.getOrDefault(heading, List.of()));
        known.addAll(besides);
        // The longer ones first, as a short one may be a part of them.
        known.sort((one, other) -> other.length() - one.length());
        String rest = SECTIONS.getOrDefault(heading, "a section that the document lacks");
        for (String sentence : known) {
            rest = rest.replace(sentence, "");
        }
        Check.same("what no test is about", plain(rest), "");
    }
}
