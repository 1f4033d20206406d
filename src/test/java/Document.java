import java.io.IOException;
import java.nio.file.Files;
import java.nio.file.Path;
import java.util.ArrayList;
import java.util.LinkedHashMap;
import java.util.List;
import java.util.Map;

/** ../shared/DOC.md as the tests read it; they are run from the project's folder. */
final class Document {
    private static final Path PLACE = Path.of("../shared/DOC.md");

    private Document() {
    }

    /** The lines of its sections, by what stands ahead of the colon in their heads. */
    static Map<String, List<String>> sections() throws IOException {
        Map<String, List<String>> sections = new LinkedHashMap<>();
        List<String> section = new ArrayList<>();
        for (String line : Files.readAllLines(PLACE)) {
            if (line.startsWith("## ")) {
                section = new ArrayList<>();
                sections.put(line.substring(3).split(":")[0].trim(), section);
            } else {
                section.add(line);
            }
        }
        return sections;
    }

    /** The members of the public face, a line each, in their order, without the ; behind them. */
    static List<String> face() throws IOException {
        List<String> face = new ArrayList<>();
        for (String line : sections().getOrDefault("The public face", List.of())) {
            if (line.startsWith("    public ")) face.add(line.trim().replaceAll(";$", ""));
        }
        return face;
    }

    /** What the interface says ahead of calls, and the calls: "1 the place", place, about .. */
    static Map<String, List<String>> parts() throws IOException {
        Map<String, List<String>> parts = new LinkedHashMap<>();
        for (String line : sections().getOrDefault("Terms", List.of())) {
            if (!line.startsWith("Ahead of the calls ")) continue;
            String[] told = line.split(" the interface says: ---- ");
            List<String> calls = new ArrayList<>();
            for (String call : told[0].split("`")) {
                if (call.matches("\\w+")) calls.add(call);
            }
            parts.put(told[1].replaceAll("\\.$", ""), calls);
        }
        return parts;
    }
}
