import java.io.IOException;
import java.lang.reflect.InvocationTargetException;
import java.lang.reflect.Method;
import java.nio.file.Files;
import java.nio.file.Path;
import java.util.List;
import java.util.regex.Matcher;
import java.util.regex.Pattern;

/** What README.md shows is true of the class: the calls of its example answer what stands behind them. */
public final class ReadmeTest {
    private static final String CODE = "    ";
    private static final String NEW = "RopeLine x = new RopeLine();";
    private static final String PUTS = "for (int i = 0; i < text.length(); i++) x.put(0, i, text.charAt(i));";
    private static final Pattern TEXT = Pattern.compile("String text = \"([^\"]+)\";");
    private static final Pattern CALL = Pattern.compile("x\\.(\\w+)\\(([-\\d, ]*)\\); +// (LOST|-?\\d+): .+");
    private static final List<String> COMMANDS = List.of(
        ".ci/run", "javac -d out src/main/java/*.java src/test/java/*.java", "java -cp out SentencesTest");

    private RopeLine x;
    private String text = "";
    private int calls;

    public static void main(String[] args) throws IOException {
        List<String> lines = Files.readAllLines(Path.of("README.md"));
        ReadmeTest test = new ReadmeTest();
        for (String line : lines) {
            if (line.startsWith(CODE)) test.made(line.trim());
        }
        Due.holds("calls are shown: " + test.calls, test.calls > 20);
        namesAll(String.join("\n", lines));
        Due.end();
    }

    private void made(String line) {
        Matcher told = TEXT.matcher(line);
        Matcher call = CALL.matcher(line);
        if (line.equals(NEW)) x = new RopeLine();
        else if (told.matches()) text = told.group(1);
        else if (line.equals(PUTS)) puts();
        else if (call.matches()) answers(call.group(1), call.group(2), call.group(3));
        else Due.holds("it is known what is shown by " + line, COMMANDS.contains(line));
    }

    private void puts() {
        for (int i = 0; i < text.length(); i++) Due.is("put(0, " + i + ")", x.put(0, i, text.charAt(i)), 1);
    }

    private void answers(String name, String numbers, String due) {
        String[] each = numbers.isBlank() ? new String[0] : numbers.split(", ");
        Class<?>[] types = new Class<?>[each.length];
        Object[] told = new Object[each.length];
        for (int k = 0; k < each.length; k++) {
            types[k] = int.class;
            told[k] = Integer.parseInt(each[k]);
        }
        calls++;
        String call = "README.md: " + name + "(" + numbers + ")";
        try {
            Method method = RopeLine.class.getMethod(name, types);
            long got = ((Number) method.invoke(x, told)).longValue();
            Due.is(call, got, due.equals("LOST") ? RopeLine.LOST : Long.parseLong(due));
        } catch (NoSuchMethodException | IllegalAccessException | InvocationTargetException none) {
            Due.holds(call + " can be made", false);
        }
    }

    /** Each call of the face and each constant with its value are named. */
    private static void namesAll(String readme) throws IOException {
        for (String member : Document.face()) {
            Matcher call = Pattern.compile(" (\\w+)\\(").matcher(member);
            if (!call.find() || call.group(1).equals("RopeLine")) continue;
            Due.holds("README.md names " + call.group(1), readme.contains("`" + call.group(1) + "`"));
        }
        String[] values = {"UNKNOWN` " + RopeLine.UNKNOWN, "OUTSIDE` " + RopeLine.OUTSIDE, "STATE` " + RopeLine.STATE,
            "FULL` " + RopeLine.FULL, "NONE` " + RopeLine.NONE, "LOST`, the least `long`"};
        for (String value : values) Due.holds("README.md tells `" + value, readme.contains("`" + value));
    }
}
