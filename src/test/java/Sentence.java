import java.io.IOException;
import java.util.ArrayList;
import java.util.LinkedHashMap;
import java.util.List;
import java.util.Map;

/**
 * The sentences of ../shared/DOC.md, by the words that the tests hold. A test tells its sentence ahead of what it
 * asks; in the end all words of all sections are to be held, so that none is left out. (FaceTest holds the public face
 * and what the interface says ahead of the calls.)
 */
final class Sentence {
    private static final int PROMISES = 36;
    private static final String FACE = "The public face";
    private static final Map<String, List<String>> HELD = new LinkedHashMap<>();
    private static String open;

    private Sentence() {
    }

    static void terms(String words) {
        of("Terms", words);
    }

    static void promise(int number, String words) {
        of("Promise " + number, words);
    }

    /** What is asked from here on would fail if these words of the section were broken. */
    static void of(String section, String words) {
        close();
        open = section + ", \"" + words + "\"";
        Due.under(open + ": ");
        hold(section, words);
    }

    /** Words that no call can break. */
    static void tellsNothing(String section, String words) {
        close();
        hold(section, words);
    }

    private static void hold(String section, String words) {
        HELD.computeIfAbsent(section, s -> new ArrayList<>()).add(words);
    }

    private static void close() {
        if (open != null) Due.holds("nothing is asked", Due.asked() > 0);
        open = null;
        Due.under("");
    }

    static void allAreHeld() throws IOException {
        close();
        Map<String, String> sections = sections();
        HELD.forEach((section, all) -> {
            for (String words : all) {
                Due.holds(section + " says \"" + words + "\"", sections.getOrDefault(section, "").contains(words));
            }
        });
        for (int k = 1; k <= PROMISES; k++) Due.holds("there is promise " + k, sections.containsKey("Promise " + k));
        for (String section : sections.keySet()) {
            if (!section.equals(FACE)) noneIsLeftOut(section, sections);
        }
    }

    /** What the sections say; white space and signs of form are left out. */
    private static Map<String, String> sections() throws IOException {
        Map<String, String> sections = new LinkedHashMap<>();
        Document.sections().forEach((section, lines) -> {
            for (String line : lines) {
                if (isTold(line)) sections.merge(section, told(line), (a, b) -> a + " " + b);
            }
        });
        return sections;
    }

    private static boolean isTold(String line) {
        return !line.isBlank() && !line.startsWith("```") && !line.startsWith("Ahead of the calls ");
    }

    private static String told(String line) {
        return line.replaceAll("^==== \\d ", "").replaceAll("^`[^`]*`: ", "").trim();
    }

    private static void noneIsLeftOut(String section, Map<String, String> sections) {
        String left = leftOut(section, sections);
        Due.holds(section + " is held by tests, all but: " + left + ":", left.isEmpty());
    }

    private static String leftOut(String section, Map<String, String> sections) {
        String text = sections.get(section);
        StringBuilder left = new StringBuilder(text);
        for (String words : HELD.getOrDefault(section, List.of())) {
            for (int i = text.indexOf(words); i >= 0; i = text.indexOf(words, i + 1)) {
                for (int k = i; k < i + words.length(); k++) left.setCharAt(k, ' ');
            }
        }
        return left.toString().replaceAll("[\\s;:.,()]+", " ").trim();
    }
}
