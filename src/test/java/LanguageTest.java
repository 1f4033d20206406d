import java.io.IOException;
import java.nio.file.Files;
import java.nio.file.Path;
import java.util.ArrayList;
import java.util.HashMap;
import java.util.List;
import java.util.Map;
import java.util.TreeSet;
import java.util.regex.Matcher;
import java.util.regex.Pattern;

/** What of ../shared/LANGUAGE.md can be seen in the text of the class; it is run from the project's folder. */
public final class LanguageTest {
    private static final String[] FORBIDDEN = {
        "import", "package", "throw", "throws", "try", "catch", "finally", "synchronized", "assert", "yield",
        "volatile", "transient", "native", "protected", "var", "equals", "hashCode", "toString", "getClass",
        "System", "Thread", "Object", "Runtime", "Random", "double", "float", "char", "while", "do", "instanceof",
        "null", "abstract", "interface", "extends", "enum", "record"};
    private static final Pattern HEAD = Pattern.compile(
        "^( {4,8})(?:(?:public|private|static|final) )*(?:[\\w\\[\\]]+ )?(\\w+)\\((.*)\\) \\{$");
    private static final Pattern CALLED = Pattern.compile("(?<!\\bnew )\\b(\\w+)\\(");
    // A loop over a counter that goes one up or down against a bound, told in its own line.
    private static final Pattern LOOP = Pattern.compile(
        "for \\(int (\\w+) = [^;]+; \\1 (?:<=?|>=?) [^;]+; \\1(?:\\+\\+|--)\\)");
    // The rows' own functions, which look at the index, are the only ones that use one.
    private static final List<String> INDEXED = List.of(
        "return i >= 0 && i < row.length ? row[i] : 0;", "if (i >= 0 && i < row.length) row[i] = v;");
    // Each is 6, or told to be above 0 in the lines ahead of it.
    private static final List<String> DIVISORS = List.of("LENGTHS", "served", "byStep", "common", "other");
    private static final int DEEPEST = 8;

    private final Map<String, TreeSet<String>> calls = new HashMap<>();

    public static void main(String[] args) throws IOException {
        String source = Files.readString(Path.of("src/main/java/RopeLine.java"));
        String code = source.replaceAll("(?s)/\\*.*?\\*/", "").replaceAll("//[^\n]*", "");
        for (String word : FORBIDDEN) {
            Due.holds("no " + word, !Pattern.compile("\\b" + word + "\\b").matcher(code).find());
        }
        for (String sign : new String[] {"->", "::", "Exact", "\"", "@"}) Due.holds("no " + sign, !code.contains(sign));
        Due.holds("one public class", code.split("public final class", -1).length == 2);
        Due.holds("no signs but 1 to 127", code.chars().allMatch(c -> c > 0 && c < 128));
        Due.holds("no library but Math", matches("\\b(?!Math|Long\\.MIN_VALUE)[A-Z]\\w*[a-z]\\w*\\.", code) == 0);
        String notNamed = "\\bMath\\.(?!(?:abs|max|min|floorDiv|floorMod)\\()";
        Due.holds("of Math what the rules name", matches(notNamed, code) == 0);
        String cast = "\\((?!byte|short)[\\w\\[\\]]+\\) ?[\\w(]";
        Due.holds("no casts but of numbers", matches(cast, withoutHeads(code)) == 0);
        Due.holds("no rows are made but in fields", madeOutsideFields(code) == 0);
        lines(code);
        new LanguageTest().methods(code.split("\n"));
        Due.end();
    }

    private static long matches(String pattern, String code) {
        return Pattern.compile(pattern).matcher(code).results().count();
    }

    /** Without what stands in brackets ahead of a block, which looks like a cast. */
    private static String withoutHeads(String code) {
        return code.replaceAll("(?m)^ *(?:if|for|switch) .*$", "").replaceAll("(?m)^.*\\) \\{$", "");
    }

    private static int madeOutsideFields(String code) {
        int made = 0;
        for (String line : code.split("\n")) {
            boolean field = line.contains("private final") || line.matches("        \\w+ = new \\w+\\(\\w*\\);");
            if (line.contains("new ") && !field) made++;
        }
        return made;
    }

    private static void lines(String code) {
        int loops = 0;
        for (String told : code.split("\n")) {
            String line = told.trim();
            if (line.contains("for (")) {
                loops++;
                Due.holds("its end is seen: " + line, LOOP.matcher(line).find());
            }
            if (matches("\\w\\[(?!\\])", line.replaceAll("new \\w+\\[", "")) > 0) {
                Due.holds("its index is looked at: " + line, INDEXED.contains(line));
            }
            Matcher divisor = Pattern.compile("[/%]=? (\\w+|\\S)").matcher(line);
            while (divisor.find()) {
                Due.holds("its divisor is looked at: " + line, DIVISORS.contains(divisor.group(1)));
            }
            if (line.contains(" static ") && !line.contains("(") && !line.contains("class ")) {
                Due.holds("a constant: " + line, line.contains(" static final "));
            }
        }
        Due.holds("loops are seen: " + loops, loops > 30);
    }

    private void methods(String[] lines) {
        int methods = 0;
        for (int i = 0; i < lines.length; i++) {
            Matcher head = HEAD.matcher(lines[i]);
            if (!head.find() || head.group(2).matches("if|for|switch")) continue;
            methods++;
            String told = lines[i].trim();
            Due.holds(told + " has seven numbers at most", head.group(3).split(",").length <= 7);
            int end = i + 1;
            while (end < lines.length && !lines[end].equals(head.group(1) + "}")) end++;
            Due.holds(told + " is short", end - i < 60);
            TreeSet<String> called = calls.computeIfAbsent(head.group(2), name -> new TreeSet<>());
            for (int k = i + 1; k < end; k++) {
                Matcher call = CALLED.matcher(lines[k]);
                while (call.find()) called.add(call.group(1));
            }
        }
        Due.holds("methods are seen: " + methods, methods > 80);
        for (String name : calls.keySet()) {
            int deep = deep(name, new ArrayList<>());
            Due.holds(name + " calls eight deep at most, itself never: " + deep, deep <= DEEPEST);
        }
    }

    /** How many calls stand open at once; methods of one name are taken together. */
    private int deep(String name, List<String> open) {
        if (!calls.containsKey(name)) return 0;
        if (open.contains(name)) return DEEPEST + 1;
        open.add(name);
        int most = 0;
        for (String called : calls.get(name)) most = Math.max(most, deep(called, open));
        open.remove(name);
        return most + 1;
    }
}
