/** Each call with each choice of edges and wild numbers, in several states: nothing throws, all is as due. */
public final class WildTest {
    private static final int[] FEW = {
        Integer.MIN_VALUE, -21, -1, 0, 1, 2, 3, 4, 5, 6, 8, 9, 11, 12, 13, 21, 35, 36, 40, 60, 61, 999, 1000,
        Integer.MAX_VALUE};
    private static final int[] FEWER = {Integer.MIN_VALUE, -1, 0, 1, 2, 3, 5, 6, 9, 12, 61, Integer.MAX_VALUE};
    private static final String[] CALLED = {
        "about 1", "ofSort 2", "bar 2", "toll 1", "board 2", "bars 1", "often 2", "mean 1", "on 2", "less 2",
        "after 4", "minutes 2", "gain 1", "best 1", "against 2", "mends 1", "blind 3", "rest 0", "order 1",
        "minute 2", "ofComer 2", "leave 1", "line 1", "envy 0", "sheet 3", "lose 1", "put 3", "cell 3", "tell 1",
        "call 1", "as 2", "trace 0", "fault 0", "many 1", "place 4"};

    private final String[] texts;
    private Pair pair;

    private WildTest(String... texts) {
        this.texts = texts;
        ready();
    }

    public static void main(String[] args) {
        WildTest[] states = {
            new WildTest(), new WildTest("m6;c2"), new WildTest("m5;c3;s6v40"), new WildTest("m6;c2;s4v30;s3v12;s2v9")};
        for (WildTest state : states) {
            for (String called : CALLED) state.all(called.split(" ")[0], Integer.parseInt(called.split(" ")[1]));
        }
        Due.end();
    }

    private void ready() {
        pair = new Pair("after " + String.join(", ", texts) + ": ");
        for (String text : texts) pair.read(1, 1, 0, text);
        pair.call("bars", 0);
        for (int k = 0; k < 12; k++) pair.call("minute", (k * 5) % 12, (k * 7) % 12);
        pair.call("sheet", 2, 0, 9);
    }

    private void all(String name, int many) {
        int[] row = many > 2 ? FEWER : FEW;
        int[] at = new int[many];
        int[] numbers = new int[many];
        boolean goesOn = true;
        while (goesOn) {
            for (int k = 0; k < many; k++) numbers[k] = row[at[k]];
            if (pair.calls() > 500) ready();
            pair.call(name, numbers);
            if (many > 0 && at[0] % 3 == 0) pair.call("fault");
            goesOn = next(at, row.length);
        }
        pair.call("many", 2);
    }

    private static boolean next(int[] at, int length) {
        for (int k = at.length - 1; k >= 0; k--) {
            if (++at[k] < length) return true;
            at[k] = 0;
        }
        return false;
    }
}
