import java.io.IOException;
import java.lang.reflect.Constructor;
import java.lang.reflect.Field;
import java.lang.reflect.Method;
import java.lang.reflect.Modifier;
import java.nio.file.Files;
import java.nio.file.Path;
import java.util.ArrayList;
import java.util.List;
import java.util.Map;
import java.util.TreeSet;

/** The public face: its constants, its constructor, its methods, and no other member that is not private. */
public final class FaceTest {
    private static final String[] METHODS = {
        "int place(int,int,int,int)", "int about(int)", "int ofSort(int,int)", "int bar(int,int)", "int toll(int)",
        "int board(int,int)", "int bars(int)", "long often(int,int)", "long mean(int)", "long on(int,int)",
        "long less(int,int)", "long after(int,int,int,int)", "long minutes(int,int)", "long gain(int)", "int best(int)",
        "int against(int,int)", "int mends(int)", "long blind(int,int,int)", "int rest()", "int order(int)",
        "int minute(int,int)", "int ofComer(int,int)", "int leave(int)", "int line(int)", "int envy()",
        "int sheet(int,int,int)", "int lose(int)", "int put(int,int,int)", "long cell(int,int,int)", "int tell(int)",
        "int call(int)", "int as(int,int)", "int trace()", "int fault()", "int many(int)"};

    public static void main(String[] args) throws IOException {
        TreeSet<String> wanted = new TreeSet<>(List.of(METHODS));
        TreeSet<String> seen = new TreeSet<>();
        TreeSet<String> names = new TreeSet<>();
        for (Method m : RopeLine.class.getDeclaredMethods()) {
            if (Modifier.isPrivate(m.getModifiers())) continue;
            seen.add(told(m));
            names.add(m.getName());
            Due.holds(m + " is public and of the object", m.getModifiers() == Modifier.PUBLIC);
        }
        Due.holds("methods " + seen, seen.equals(wanted));
        for (Class<?> c : nestAndSelf()) {
            for (Method m : c.getDeclaredMethods()) {
                boolean ownFace = c == RopeLine.class && Modifier.isPublic(m.getModifiers());
                Due.holds(m + " bears no name of the face", ownFace || !names.contains(m.getName()));
            }
        }
        Constructor<?>[] constructors = RopeLine.class.getDeclaredConstructors();
        Due.is("constructors", constructors.length, 1);
        Due.holds("constructor", constructors[0].getModifiers() == Modifier.PUBLIC
            && constructors[0].getParameterCount() == 0);
        Due.is("final class", RopeLine.class.getModifiers(), Modifier.PUBLIC | Modifier.FINAL);
        constants();
        nested();
        asTheDocumentWritesIt();
        Due.end();
    }

    private static Class<?>[] nestAndSelf() {
        Class<?>[] inside = RopeLine.class.getDeclaredClasses();
        Class<?>[] all = java.util.Arrays.copyOf(inside, inside.length + 1);
        all[inside.length] = RopeLine.class;
        return all;
    }

    private static String told(Method m) {
        StringBuilder b = new StringBuilder();
        b.append(m.getReturnType().getName()).append(' ').append(m.getName()).append('(');
        for (int i = 0; i < m.getParameterCount(); i++) {
            if (i > 0) b.append(',');
            b.append(m.getParameterTypes()[i].getName());
        }
        return b.append(')').toString();
    }

    private static void constants() {
        Due.is("UNKNOWN", RopeLine.UNKNOWN, -1);
        Due.is("OUTSIDE", RopeLine.OUTSIDE, -2);
        Due.is("STATE", RopeLine.STATE, -3);
        Due.is("FULL", RopeLine.FULL, -4);
        Due.is("NONE", RopeLine.NONE, -9);
        Due.is("LOST", RopeLine.LOST, Long.MIN_VALUE);
        int visible = 0;
        for (Field f : RopeLine.class.getDeclaredFields()) {
            if (Modifier.isPrivate(f.getModifiers())) continue;
            visible++;
            Due.is(f + " is a constant", f.getModifiers(), Modifier.PUBLIC | Modifier.STATIC | Modifier.FINAL);
            Due.holds(f + " is of its type", f.getType() == (f.getName().equals("LOST") ? long.class : int.class));
        }
        Due.is("fields that are not private", visible, 6);
    }

    private static void nested() {
        for (Class<?> c : RopeLine.class.getDeclaredClasses()) {
            Due.holds(c + " is static", Modifier.isStatic(c.getModifiers()));
            Due.holds(c + " is not public", !Modifier.isPublic(c.getModifiers())
                && !Modifier.isProtected(c.getModifiers()));
        }
        for (Class<?> c : nestAndSelf()) {
            int fields = 0;
            for (Field f : c.getDeclaredFields()) {
                if (Modifier.isStatic(f.getModifiers())) Due.holds(f + " is final", Modifier.isFinal(f.getModifiers()));
                else fields++;
            }
            Due.holds(c + " has twenty fields at most", fields <= 20);
        }
        Due.holds("twelve classes at most", nestAndSelf().length <= 12);
    }

    /** Names of what a call is told, the order of the calls, and what is said ahead of them, as in the document. */
    private static void asTheDocumentWritesIt() throws IOException {
        List<String> face = Document.face();
        List<String> written = new ArrayList<>();
        List<String> source = Files.readAllLines(Path.of("src/main/java/RopeLine.java"));
        for (String line : source) {
            if (line.startsWith("    public ")) written.add(line.trim().replaceAll(" \\{$|;$", ""));
        }
        Due.is("members of the face in the document", face.size(), METHODS.length + 3);
        for (String member : face) Due.holds("the class has " + member, written.contains(member));
        Due.same("the face", String.join("\n", written), String.join("\n", face));
        Map<String, List<String>> parts = Document.parts();
        Due.is("parts", parts.size(), 5);
        for (Map.Entry<String, List<String>> part : parts.entrySet()) {
            Due.same("calls of " + part.getKey(), callsBehind("    // ---- " + part.getKey(), source),
                String.join(" ", part.getValue()));
        }
    }

    /** The public methods from a comment to the next one that begins a part. */
    private static String callsBehind(String comment, List<String> source) {
        StringBuilder calls = new StringBuilder();
        int from = source.indexOf(comment);
        for (int i = from + 1; from >= 0 && i < source.size() && !source.get(i).startsWith("    // ----"); i++) {
            if (!source.get(i).startsWith("    public ")) continue;
            calls.append(calls.length() > 0 ? " " : "").append(source.get(i).replaceAll("^ *public \\w+ |\\(.*$", ""));
        }
        return calls.toString();
    }
}
