import java.util.ArrayList;
import java.util.List;

/**
 * Long runs of calls with drawn numbers, ordinary, at the edges and far outside, each answered by the class
 * and by the Model. The draws are a fixed row: each run of the test makes the same calls.
 */
public final class ModelRunsTest {
    private static final int RUNS = 400;
    private static final int CALLS = 512;
    private static final int[] WILD = {
        -1, -2, 3, 4, 6, 7, 12, 13, 21, -21, 40, 41, 59, 60, 61, 999, 1000, 100000,
        Integer.MAX_VALUE, Integer.MIN_VALUE, Integer.MAX_VALUE - 1, Integer.MIN_VALUE + 1};

    // A call's name, how often it is drawn, and the least and greatest of each number it is told.
    private static final String[] CALLED = {
        "about 2 0 5", "ofSort 6 0 2 0 3", "bar 6 0 2 0 5", "toll 3 0 999", "board 3 0 20 -20 20", "bars 3 0 2",
        "often 3 0 5 0 1", "mean 1 0 1", "on 3 0 2 0 1", "less 3 1 5 0 1", "after 2 0 8 0 5 0 5 0 1",
        "minutes 3 0 5 0 2", "gain 2 0 1", "best 1 0 2", "against 2 0 40 0 40", "mends 1 0 2", "blind 3 0 12 0 4 0 1",
        "rest 2", "order 3 0 2", "minute 60 0 11 0 11", "ofComer 14 0 39 0 5", "leave 5 0 39", "line 6 -1 4",
        "envy 4", "sheet 1 0 3 0 2 0 60", "lose 1 0 3", "put 3 0 3 0 59 -70000 70000", "cell 5 0 3 0 59 0 2",
        "tell 5 0 39", "call 5 0 39", "as 6 0 39 0 2", "trace 4", "fault 5", "many 5 0 4", "place 1 0 3 0 2 0 60 0 60"};

    private long drawn;
    private Pair pair;

    public static void main(String[] args) {
        ModelRunsTest test = new ModelRunsTest();
        for (int run = 0; run < RUNS && Due.wrong() < 20; run++) test.oneRun(run);
        Due.end();
    }

    private int draw(int least, int most) {
        drawn = drawn * 6364136223846793005L + 1442695040888963407L;
        return least + (int) Long.remainderUnsigned(drawn >>> 17, (long) most - least + 1);
    }

    private void oneRun(int number) {
        drawn = number * 7919L + 17;
        pair = new Pair("run " + number + ": ");
        List<String> bag = new ArrayList<>();
        for (String called : CALLED) {
            for (int k = Integer.parseInt(called.split(" ")[1]); k > 0; k--) bag.add(called);
        }
        if (number % 8 != 0) readText();
        while (pair.calls() < CALLS - 80) {
            if (draw(0, 90) == 0) readText();
            else oneCall(bag.get(draw(0, bag.size() - 1)));
        }
        for (int what = 0; what < 5; what++) pair.call("many", what);
        for (int c = 0; c < 40; c += 7) pair.call("tell", c);
        pair.call("trace");
        pair.call("envy");
    }

    private void oneCall(String called) {
        String[] told = called.split(" ");
        int[] numbers = new int[(told.length - 2) / 2];
        for (int k = 0; k < numbers.length; k++) {
            int least = Integer.parseInt(told[2 + 2 * k]);
            int most = Integer.parseInt(told[3 + 2 * k]);
            numbers[k] = draw(0, 19) == 0 ? WILD[draw(0, WILD.length - 1)] : draw(least, most);
        }
        if (asksForComer(told) && draw(0, 2) > 0) numbers[0] = draw(0, Math.max(0, pair.comers()));
        pair.call(told[0], numbers);
    }

    private static boolean asksForComer(String[] told) {
        return told.length > 3 && told[3].equals("39");
    }

    private void readText() {
        int from = draw(0, 3) == 0 ? draw(0, 5) : 0;
        pair.read(draw(0, 3), draw(0, 2), from, text());
    }

    private String text() {
        StringBuilder b = new StringBuilder();
        int left = 11;
        b.append('m').append(number(1, 11)).append(";c").append(number(1, 9));
        int sorts = draw(0, 2) == 0 ? 1 : draw(0, 3);
        for (int s = 0; s < sorts && left > 0; s++) {
            int twelfths = draw(1, Math.max(1, left - (sorts - 1 - s)));
            left -= twelfths;
            b.append(";s").append(draw(0, 9) == 0 ? "0" : "").append(twelfths);
            b.append('v').append(draw(0, 3) == 0 ? draw(0, 999) : draw(0, 120));
        }
        if (draw(0, 5) == 0) spoil(b);
        return b.toString();
    }

    private String number(int least, int most) {
        int v = draw(0, 30) == 0 ? draw(0, 13) : draw(least, most);
        return (draw(0, 9) == 0 ? "0" : "") + v;
    }

    private void spoil(StringBuilder b) {
        String codes = "mcsv;0123456789x";
        int at = draw(0, b.length() - 1);
        char code = codes.charAt(draw(0, codes.length() - 1));
        switch (draw(0, 3)) {
            case 0: b.setCharAt(at, code); break;
            case 1: b.insert(at, code); break;
            case 2: b.deleteCharAt(at); break;
            default: b.setLength(at);
        }
    }
}
