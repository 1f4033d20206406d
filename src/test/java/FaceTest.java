import java.lang.reflect.Constructor;
import java.lang.reflect.Field;
import java.lang.reflect.Method;
import java.lang.reflect.Modifier;
import java.util.TreeSet;

/** The public face: its constants, its constructor, its methods, and no other member that is not private. */
public final class FaceTest {
    private static final String[] METHODS = {
        "int place(int,int,int,int)", "int about(int)", "int ofSort(int,int)", "int bar(int,int)", "int toll(int)",
        "int board(int,int)", "int bars(int)", "long often(int,int)", "long mean(int)", "long on(int,int)",
        "long less(int,int)", "long after(int,int,int,int)", "long minutes(int,int)", "long gain(int)", "int best(int)",
        "int against(int,int)", "int mends(int)", "long blind(int,int,int)", "int rest()", "int order(int)",
        "int minute(int,int)", "int ofComer(int,int)", "int leave(int)", "int line(int)", "int envy()",
        "int sheet(int,int,int)", "int lose(int)", "int put(int,int,int)", "long cell(int,int,int)", "int tell(int)",
        "int call(int)", "int as(int,int)", "int trace()", "int fault()", "int many(int)"};

    public static void main(String[] args) {
        TreeSet<String> wanted = new TreeSet<>(java.util.List.of(METHODS));
        TreeSet<String> seen = new TreeSet<>();
        TreeSet<String> names = new TreeSet<>();
        for (Method m : RopeLine.class.getDeclaredMethods()) {
            if (Modifier.isPrivate(m.getModifiers())) continue;
            seen.add(told(m));
            names.add(m.getName());
            Due.holds(m + " is public and of the object", m.getModifiers() == Modifier.PUBLIC);
        }
        Due.holds("methods " + seen, seen.equals(wanted));
        for (Class<?> c : nestAndSelf()) {
            for (Method m : c.getDeclaredMethods()) {
                boolean ownFace = c == RopeLine.class && Modifier.isPublic(m.getModifiers());
                Due.holds(m + " bears no name of the face", ownFace || !names.contains(m.getName()));
            }
        }
        Constructor<?>[] constructors = RopeLine.class.getDeclaredConstructors();
        Due.is("constructors", constructors.length, 1);
        Due.holds("constructor", constructors[0].getModifiers() == Modifier.PUBLIC
            && constructors[0].getParameterCount() == 0);
        Due.is("final class", RopeLine.class.getModifiers(), Modifier.PUBLIC | Modifier.FINAL);
        constants();
        nested();
        Due.end();
    }

    private static Class<?>[] nestAndSelf() {
        Class<?>[] inside = RopeLine.class.getDeclaredClasses();
        Class<?>[] all = java.util.Arrays.copyOf(inside, inside.length + 1);
        all[inside.length] = RopeLine.class;
        return all;
    }

    private static String told(Method m) {
        StringBuilder b = new StringBuilder();
        b.append(m.getReturnType().getName()).append(' ').append(m.getName()).append('(');
        for (int i = 0; i < m.getParameterCount(); i++) {
            if (i > 0) b.append(',');
            b.append(m.getParameterTypes()[i].getName());
        }
        return b.append(')').toString();
    }

    private static void constants() {
        Due.is("UNKNOWN", RopeLine.UNKNOWN, -1);
        Due.is("OUTSIDE", RopeLine.OUTSIDE, -2);
        Due.is("STATE", RopeLine.STATE, -3);
        Due.is("FULL", RopeLine.FULL, -4);
        Due.is("NONE", RopeLine.NONE, -9);
        Due.is("LOST", RopeLine.LOST, Long.MIN_VALUE);
        int visible = 0;
        for (Field f : RopeLine.class.getDeclaredFields()) {
            if (!Modifier.isPrivate(f.getModifiers())) visible++;
            if (Modifier.isStatic(f.getModifiers())) Due.holds(f + " is final", Modifier.isFinal(f.getModifiers()));
        }
        Due.is("fields that are not private", visible, 6);
    }

    private static void nested() {
        for (Class<?> c : RopeLine.class.getDeclaredClasses()) {
            Due.holds(c + " is static", Modifier.isStatic(c.getModifiers()));
            Due.holds(c + " is not public", !Modifier.isPublic(c.getModifiers())
                && !Modifier.isProtected(c.getModifiers()));
            int fields = 0;
            for (Field f : c.getDeclaredFields()) if (!Modifier.isStatic(f.getModifiers())) fields++;
            Due.holds(c + " has twenty fields at most", fields <= 20);
        }
        Due.holds("twelve classes at most", RopeLine.class.getDeclaredClasses().length < 12);
    }
}
