import java.lang.reflect.Method;

/** The class and the Model side by side: each call is made of both, and the answers are to be the same. */
final class Pair {
    private final String run;
    private final RopeLine x = new RopeLine();
    private final Model model = new Model();
    private int calls;

    Pair(String run) {
        this.run = run;
    }

    int calls() {
        return calls;
    }

    void call(String name, int... numbers) {
        Class<?>[] types = new Class<?>[numbers.length];
        Object[] told = new Object[numbers.length];
        StringBuilder call = new StringBuilder(run).append(name).append('(');
        for (int k = 0; k < numbers.length; k++) {
            types[k] = int.class;
            told[k] = numbers[k];
            call.append(k == 0 ? "" : ", ").append(numbers[k]);
        }
        calls++;
        try {
            Method one = RopeLine.class.getMethod(name, types);
            Method other = Model.class.getMethod(name, types);
            long got = ((Number) one.invoke(x, told)).longValue();
            long want = ((Number) other.invoke(model, told)).longValue();
            Due.is(call.append(')').toString(), got, want);
        } catch (ReflectiveOperationException thrown) {
            Due.is(call.append(") threw ").append(thrown.getCause()).toString(), 1, 0);
        }
    }

    /** A sheet anew with a text from a cell on, and the place by it. */
    void read(int sheet, int lane, int from, String text) {
        call("sheet", sheet, lane, Math.min(60, from + text.length()));
        for (int i = 0; i < text.length() && from + i < 60; i++) call("put", sheet, from + i, text.charAt(i));
        call("place", sheet, lane, from, Math.min(60 - from, text.length()));
    }

    int comers() {
        return x.many(1);
    }
}
