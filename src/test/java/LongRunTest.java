/** Promises 9 to 13: lengths in the long run. */
public final class LongRunTest {
    public static void main(String[] args) {
        oneBar();
        nobodyJoins();
        twoBars();
        longest();
        refusals();
        sums();
        Due.end();
    }

    private static void share(String call, long upper, long lower, long dueUpper, long dueLower) {
        Due.is(call + " upper", upper, dueUpper);
        Due.is(call + " lower", lower, dueLower);
    }

    private static void often(RopeLine x, int n, long upper, long lower) {
        share("9: often(" + n + ")", x.often(n, 0), x.often(n, 1), upper, lower);
    }

    private static void after(RopeLine x, int t, int n, int k, long upper, long lower) {
        share("13: after(" + t + ", " + n + ", " + k + ")", x.after(t, n, k, 0), x.after(t, n, k, 1), upper, lower);
    }

    // A half is served, a quarter comes, the bar is 1. From 0: to 1 by 1/4. From 1: served by 1/2, and 1/4 of
    // those minutes bring another one: to 0 by 3/8. So 0 has 3/5 and 1 has 2/5. One who comes finds 0 by
    // 3/5 + 2/5 * 1/2 = 4/5.
    private static void oneBar() {
        RopeLine x = Texts.at("m6;c2;s3v12");
        x.bar(0, 1);
        often(x, 0, 3, 5);
        often(x, 1, 2, 5);
        for (int n = 2; n < 6; n++) often(x, n, 0, 1);
        share("10: mean", x.mean(0), x.mean(1), 2, 5);
        share("11: on", x.on(0, 0), x.on(0, 1), 1, 5);
        share("12: less(1)", x.less(1, 0), x.less(1, 1), 8, 3);
        Due.is("12: 2 never stand there", x.less(2, 0), RopeLine.LOST);
        Due.is("12: 5 never stand there", x.less(5, 1), RopeLine.LOST);
        after(x, 0, 1, 1, 1, 1);
        after(x, 0, 1, 0, 0, 1);
        after(x, 1, 0, 0, 3, 4);
        after(x, 1, 0, 1, 1, 4);
        after(x, 1, 1, 0, 3, 8);
        after(x, 1, 1, 1, 5, 8);
        after(x, 2, 0, 1, 5 + 2 * 3, 32);
        // Lengths above the bars shrink only.
        after(x, 1, 5, 5, 1, 2);
        after(x, 1, 5, 4, 1, 2);
        after(x, 3, 5, 2, 1, 8);
        after(x, 2, 5, 2, 0, 1);
        after(x, 8, 5, 5, 1, 256);
    }

    private static void nobodyJoins() {
        RopeLine x = Texts.at("m3;c2;s3v12;s1v1");
        often(x, 0, 1, 1);
        often(x, 1, 0, 1);
        share("10: mean of none", x.mean(0), x.mean(1), 0, 1);
        share("11: all go on", x.on(1, 0), x.on(1, 1), 1, 1);
        Due.is("12: 1 never stands there", x.less(1, 0), RopeLine.LOST);
        after(x, 8, 0, 0, 1, 1);
        RopeLine empty = Texts.at("m3;c2");
        often(empty, 0, 1, 1);
        share("10: mean without sorts", empty.mean(0), empty.mean(1), 0, 1);
        after(empty, 1, 2, 1, 1, 4);
        Due.is("11: no sort", empty.on(0, 0), RopeLine.LOST);
    }

    // The run of the document's tests: m6;c2;s4v30;s3v12 by 3 and 1.
    private static void twoBars() {
        RopeLine x = Texts.at("m6;c2;s4v30;s3v12");
        x.bar(0, 3);
        x.bar(1, 1);
        often(x, 0, 10, 59);
        often(x, 1, 28, 59);
        often(x, 2, 14, 59);
        often(x, 3, 7, 59);
        share("10: mean", x.mean(0), x.mean(1), 77, 59);
        share("11: on(0)", x.on(0, 0), x.on(0, 1), 7, 118);
        share("11: on(1)", x.on(1, 0), x.on(1, 1), 35, 59);
        share("12: less(1)", x.less(1, 0), x.less(1, 1), 42, 5);
        share("12: less(3)", x.less(3, 0), x.less(3, 1), 3, 1);
        after(x, 8, 2, 0, 2149493105L, 13759414272L);
        x.bar(1, 0);
        share("11: on(1) of bar 0", x.on(1, 0), x.on(1, 1), 1, 1);
    }

    // The greatest numbers: all shares of bars 5 add up, and so does a way of one length up and down.
    private static void longest() {
        RopeLine x = Texts.at("m1;c1;s11v9");
        x.bars(2);
        // up 11 * 12, then 121 four times; down 1 each: from 5 one less in 144 minutes
        share("12: less(5)", x.less(5, 0), x.less(5, 1), 144, 1);
        share("12: less(4)", x.less(4, 0), x.less(4, 1), 144 + 121 * 144, 1);
        share("9: often(0)", x.often(0, 0), x.often(0, 1), 1, 1 + 132 * (1L + 121 + 14641 + 1771561 + 214358881));
        after(x, 1, 5, 4, 1, 144);
        after(x, 4, 5, 1, 1, 144L * 144 * 144 * 144);
        RopeLine y = Texts.at("m11;c1;s1v9");
        y.bars(2);
        share("12: less(5)", y.less(5, 0), y.less(5, 1), 144, 121);
    }

    private static void refusals() {
        RopeLine none = new RopeLine();
        Due.is("9: no place", none.often(0, 0), RopeLine.LOST);
        Due.is("10: no place", none.mean(0), RopeLine.LOST);
        Due.is("11: no place", none.on(0, 0), RopeLine.LOST);
        Due.is("12: no place", none.less(1, 0), RopeLine.LOST);
        Due.is("13: no place", none.after(0, 0, 0, 0), RopeLine.LOST);
        RopeLine x = Texts.at("m6;c2;s4v30;s3v12");
        x.bars(2);
        for (int wrong : new int[] {-1, 6, Integer.MIN_VALUE, Integer.MAX_VALUE}) {
            Due.is("9: length " + wrong, x.often(wrong, 0), RopeLine.LOST);
            Due.is("12: length " + wrong, x.less(wrong, 0), RopeLine.LOST);
            Due.is("13: from " + wrong, x.after(1, wrong, 0, 0), RopeLine.LOST);
            Due.is("13: to " + wrong, x.after(1, 0, wrong, 0), RopeLine.LOST);
            Due.is("11: sort " + wrong, x.on(wrong, 0), RopeLine.LOST);
        }
        for (int wrong : new int[] {-1, 2, Integer.MIN_VALUE, Integer.MAX_VALUE}) {
            Due.is("9: which " + wrong, x.often(0, wrong), RopeLine.LOST);
            Due.is("10: which " + wrong, x.mean(wrong), RopeLine.LOST);
            Due.is("11: which " + wrong, x.on(0, wrong), RopeLine.LOST);
            Due.is("12: which " + wrong, x.less(1, wrong), RopeLine.LOST);
            Due.is("13: which " + wrong, x.after(0, 0, 0, wrong), RopeLine.LOST);
        }
        Due.is("11: sort 2", x.on(2, 0), RopeLine.LOST);
        Due.is("12: length 0", x.less(0, 0), RopeLine.LOST);
        Due.is("13: t -1", x.after(-1, 0, 0, 0), RopeLine.LOST);
        Due.is("13: t 9", x.after(9, 0, 0, 0), RopeLine.LOST);
        Due.holds("12: length 5 stands there", x.less(5, 0) > 0);
    }

    private static void sums() {
        for (int m = 1; m < 12; m++) {
            RopeLine x = Texts.at("m" + m + ";c3;s2v40;s4v9;s5v70");
            x.bar(0, m % 6);
            x.bar(1, m % 4 + 1);
            x.bar(2, 5 - m % 5);
            Fraction often = Fraction.ZERO;
            Fraction after = Fraction.ZERO;
            for (int n = 0; n < 6; n++) {
                often = often.plus(Fraction.of(x.often(n, 0), x.often(n, 1)));
                after = after.plus(Fraction.of(x.after(8, 3, n, 0), x.after(8, 3, n, 1)));
            }
            Due.is("9: all shares, m " + m, often.compareTo(Fraction.ONE), 0);
            Due.is("13: all shares, m " + m, after.compareTo(Fraction.ONE), 0);
        }
    }
}
