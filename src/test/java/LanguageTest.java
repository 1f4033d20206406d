import java.io.IOException;
import java.nio.file.Files;
import java.nio.file.Path;
import java.util.regex.Matcher;
import java.util.regex.Pattern;

/** What of ../shared/LANGUAGE.md can be seen in the text of the class; it is run from the project's folder. */
public final class LanguageTest {
    private static final String[] FORBIDDEN = {
        "import", "package", "throw", "throws", "try", "catch", "finally", "synchronized", "assert", "yield",
        "volatile", "transient", "native", "protected", "var", "equals", "hashCode", "toString", "getClass",
        "System", "Thread", "Object", "Runtime", "Random", "double", "float", "char"};
    private static final Pattern HEAD = Pattern.compile(
        "^ {4,8}(?:(?:public|private|static|final) )*[\\w\\[\\]]+ \\w+\\((.*)\\) \\{$|^ {4,8}(?:public )?\\w+\\((.*)\\) \\{$");

    public static void main(String[] args) throws IOException {
        String source = Files.readString(Path.of("src/main/java/RopeLine.java"));
        String code = source.replaceAll("(?s)/\\*.*?\\*/", "").replaceAll("//[^\n]*", "");
        for (String word : FORBIDDEN) {
            Due.holds("no " + word, !Pattern.compile("\\b" + word + "\\b").matcher(code).find());
        }
        for (String sign : new String[] {"->", "::", "Exact", "\"", "@", "while (true)", "for (;;)"}) {
            Due.holds("no " + sign, !code.contains(sign));
        }
        Due.holds("one public class", code.split("public final class", -1).length == 2);
        Due.holds("no library but Math", Pattern.compile("\\b(?!Math|Long\\.MIN)[A-Z]\\w*[a-z]\\w*\\.").matcher(code)
            .results().count() == 0);
        Due.holds("no rows are made but in fields", madeOutsideFields(code) == 0);
        methods(source.split("\n"));
        Due.end();
    }

    private static int madeOutsideFields(String code) {
        int made = 0;
        for (String line : code.split("\n")) {
            boolean field = line.contains("private final") || line.matches("        \\w+ = new \\w+\\(\\w*\\);");
            if (line.contains("new ") && !field) made++;
        }
        return made;
    }

    private static void methods(String[] lines) {
        int methods = 0;
        for (int i = 0; i < lines.length; i++) {
            Matcher head = HEAD.matcher(lines[i]);
            if (!head.find() || lines[i].contains(" new ")) continue;
            methods++;
            String told = head.group(1) != null ? head.group(1) : head.group(2);
            Due.holds(lines[i].trim() + " has seven numbers at most", told.split(",").length <= 7);
            int end = i;
            String close = lines[i].replaceAll("\\S.*", "") + "}";
            while (end < lines.length && !lines[end].equals(close)) end++;
            Due.holds(lines[i].trim() + " is short", end - i < 60);
        }
        Due.holds("methods are seen: " + methods, methods > 80);
    }
}
