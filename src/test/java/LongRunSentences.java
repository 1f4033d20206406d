/** Terms 2 and promises 9 to 13: lengths in the long run. */
final class LongRunSentences {
    private static final int[] WRONG_LENGTHS = {-1, 6, Integer.MIN_VALUE, Integer.MAX_VALUE};
    private static final int[] WRONG_PARTS = {-1, 2, Integer.MIN_VALUE, Integer.MAX_VALUE};

    private LongRunSentences() {
    }

    static void all() {
        longRun();
        mean();
        goesOn();
        oneLess();
        after();
        oftenByLength();
        oftenOutside();
        oftenNoPlace();
        meanByPart();
        meanLost();
        onOfSort();
        onUnknown();
        onOutside();
        lessByLength();
        lessOutside();
        lessNoPlace();
        lessOfNever();
        afterByLength();
        afterOutside();
        afterNoPlace();
    }

    /**
     * Half a minute's chance each to be SERVED and to come, BAR 5. From 0 to 1 by 1/2, from each other length one up
     * or down by 1/4: 0 has 1 part of 11, each other length 2. By another BAR b: parts of 2 b + 1.
     */
    private static RopeLine half() {
        return Texts.open("m6;c2;s6v12");
    }

    /**
     * A quarter comes, the BAR is 1. From 0 to 1 by 1/4; from 1, served by 1/2, and 1/4 of those minutes bring
     * another one: to 0 by 3/8. So 0 has 3/5 and 1 has 2/5. One who comes finds 0 by 3/5 + 2/5 * 1/2 = 4/5.
     */
    private static RopeLine oneBar() {
        RopeLine x = Texts.at("m6;c2;s3v12");
        x.bar(0, 1);
        return x;
    }

    private static RopeLine twoBars() {
        RopeLine x = Texts.at("m6;c2;s4v30;s3v12");
        x.bar(0, 3);
        x.bar(1, 1);
        return x;
    }

    private static void often(RopeLine x, int n, long upper, long lower) {
        Due.share("often(" + n + ")", x.often(n, 0), x.often(n, 1), upper, lower);
    }

    private static void after(RopeLine x, int t, int n, int k, long upper, long lower) {
        Due.share("after(" + t + ", " + n + ", " + k + ")", x.after(t, n, k, 0), x.after(t, n, k, 1), upper, lower);
    }

    private static void less(RopeLine x, int n, long upper, long lower) {
        Due.share("less(" + n + ")", x.less(n, 0), x.less(n, 1), upper, lower);
    }

    private static void longRun() {
        Sentence.terms("IN THE LONG RUN each length n (0 .. 5) has a share of the minutes (as they begin).");
        for (int n = 0; n < 6; n++) often(half(), n, n == 0 ? 1 : 2, 11);
        for (int n = 0; n < 6; n++) often(oneBar(), n, n == 0 ? 3 : n == 1 ? 2 : 0, n < 2 ? 5 : 1);
        int[] due = {10, 28, 14, 7, 0, 0};
        for (int n = 0; n < 6; n++) often(twoBars(), n, due[n], n < 4 ? 59 : 1);
        RopeLine nobody = Texts.at("m3;c2;s3v12;s1v1");
        for (int n = 0; n < 6; n++) often(nobody, n, n == 0 ? 1 : 0, 1);
        RopeLine empty = Texts.at("m3;c2");
        for (int n = 0; n < 6; n++) often(empty, n, n == 0 ? 1 : 0, 1);
        RopeLine most = Texts.open("m1;c1;s11v9");
        often(most, 0, 1, 1 + 132 * (1L + 121 + 14641 + 1771561 + 214358881));
        often(most, 5, 132L * 214358881, 1 + 132 * (1L + 121 + 14641 + 1771561 + 214358881));
        for (int m = 1; m < 12; m++) sharesAddUp(m);
    }

    private static void sharesAddUp(int m) {
        RopeLine x = Texts.at("m" + m + ";c3;s2v40;s4v9;s5v70");
        x.bar(0, m % 6);
        x.bar(1, m % 4 + 1);
        x.bar(2, 5 - m % 5);
        Fraction all = Fraction.ZERO;
        for (int n = 0; n < 6; n++) all = all.plus(Fraction.of(x.often(n, 0), x.often(n, 1)));
        Due.is("all shares by m " + m, all.compareTo(Fraction.ONE), 0);
    }

    private static void mean() {
        Sentence.terms("MEAN: of lengths by these.");
        Due.share("each of 1 to 5 by 2/11", half().mean(0), half().mean(1), 30, 11);
        Due.share("1 by 2/5", oneBar().mean(0), oneBar().mean(1), 2, 5);
        Due.share("28, 14, 7 by 59", twoBars().mean(0), twoBars().mean(1), 77, 59);
        Due.share("none", Texts.at("m3;c2").mean(0), Texts.at("m3;c2").mean(1), 0, 1);
    }

    private static void goesOn() {
        Sentence.terms("GOES ON of a SORT: the share of those of it that come that go on.");
        Due.share("those who find 5", half().on(0, 0), half().on(0, 1), 1, 11);
        Due.share("those who find 1", oneBar().on(0, 0), oneBar().on(0, 1), 1, 5);
        Due.share("of BAR 3", twoBars().on(0, 0), twoBars().on(0, 1), 7, 118);
        Due.share("of BAR 1", twoBars().on(1, 0), twoBars().on(1, 1), 35, 59);
        RopeLine x = half();
        for (int b = 0; b < 6; b++) {
            x.bar(0, b);
            Due.share("of BAR " + b, x.on(0, 0), x.on(0, 1), 1, 2 * b + 1);
        }
        RopeLine two = twoBars();
        two.bar(1, 0);
        Due.share("all of BAR 0, though others join", two.on(1, 0), two.on(1, 1), 1, 1);
    }

    private static void oneLess() {
        Sentence.terms("ONE LESS from n (1 on): the mean number of minutes till for the first time fewer stand there "
            + "than n do, if n do now.");
        for (int n = 1; n < 6; n++) less(half(), n, 4 * (6 - n), 1);
        less(oneBar(), 1, 8, 3);
        less(twoBars(), 1, 42, 5);
        less(twoBars(), 3, 3, 1);
        RopeLine slow = Texts.open("m1;c1;s11v9");
        less(slow, 5, 144, 1);
        less(slow, 4, 144 + 121 * 144, 1);
        RopeLine fast = Texts.open("m11;c1;s1v9");
        less(fast, 5, 144, 121);
    }

    private static void after() {
        Sentence.terms("AFTER t minutes (0 .. 8) from n: the share of each length.");
        for (int n = 0; n < 6; n++) {
            for (int k = 0; k < 6; k++) {
                after(half(), 0, n, k, n == k ? 1 : 0, 1);
                Fraction one = n == 0 ? Fraction.of(k < 2 ? 1 : 0, 2)
                    : Fraction.of(n == k ? (n == 5 ? 3 : 2) : Math.abs(n - k) == 1 ? 1 : 0, 4);
                after(half(), 1, n, k, one.part(0), one.part(1));
            }
        }
        after(half(), 5, 5, 0, 1, 1024);
        after(half(), 4, 5, 0, 0, 1);
        after(oneBar(), 2, 0, 1, 11, 32);
        after(twoBars(), 8, 2, 0, 2149493105L, 13759414272L);
        // Lengths that never stand there in the long run shrink only.
        after(oneBar(), 1, 5, 5, 1, 2);
        after(oneBar(), 1, 5, 4, 1, 2);
        after(oneBar(), 3, 5, 2, 1, 8);
        after(oneBar(), 2, 5, 2, 0, 1);
        after(oneBar(), 8, 5, 5, 1, 256);
        after(Texts.at("m3;c2"), 1, 2, 1, 1, 4);
        after(Texts.at("m3;c2"), 8, 0, 0, 1, 1);
        after(Texts.open("m1;c1;s11v9"), 4, 5, 1, 1, 144L * 144 * 144 * 144);
        after(Texts.at("m1;c1;s11v9"), 8, 5, 5, 214358881, 429981696);
        for (int t = 0; t < 9; t++) afterAddsUp(t);
    }

    private static void afterAddsUp(int t) {
        RopeLine x = Texts.at("m7;c3;s2v40;s4v9;s5v70");
        x.bar(0, 5);
        x.bar(1, 3);
        Fraction all = Fraction.ZERO;
        for (int k = 0; k < 6; k++) all = all.plus(Fraction.of(x.after(t, 3, k, 0), x.after(t, 3, k, 1)));
        Due.is("all shares after " + t, all.compareTo(Fraction.ONE), 0);
    }

    // ---- promises 9 and 10

    private static void oftenByLength() {
        Sentence.promise(9, "The share of length n (0 .. 5): upper number (which 0), lower (1).");
        RopeLine x = half();
        for (int n = 0; n < 6; n++) {
            Due.is("often(" + n + ", 0)", x.often(n, 0), n == 0 ? 1 : 2);
            Due.is("often(" + n + ", 1)", x.often(n, 1), 11);
        }
        x.bar(0, 1);
        Due.is("by BARS as they are, often(5, 0)", x.often(5, 0), 0);
        Due.is("its lower number", x.often(5, 1), 1);
    }

    private static void oftenOutside() {
        Sentence.promise(9, "LOST: OUTSIDE");
        RopeLine x = half();
        for (int wrong : WRONG_LENGTHS) Due.is("length " + wrong, x.often(wrong, 0), RopeLine.LOST);
        for (int wrong : WRONG_PARTS) Due.is("which " + wrong, x.often(0, wrong), RopeLine.LOST);
    }

    private static void oftenNoPlace() {
        Sentence.promise(9, "STATE: there is no PLACE.");
        for (int n = 0; n < 6; n++) Due.is("length " + n, new RopeLine().often(n, 1), RopeLine.LOST);
        Due.is("without SORTS there is one", Texts.at("m3;c2").often(0, 1), 1);
    }

    private static void meanByPart() {
        Sentence.promise(10, "MEAN.");
        Due.is("mean(0)", half().mean(0), 30);
        Due.is("mean(1)", half().mean(1), 11);
        RopeLine x = half();
        for (int b = 0; b < 6; b++) {
            x.bar(0, b);
            Due.share("of BAR " + b, x.mean(0), x.mean(1), b * (b + 1), 2 * b + 1);
        }
    }

    private static void meanLost() {
        Sentence.promise(10, "LOST: as often().");
        for (int wrong : WRONG_PARTS) Due.is("which " + wrong, half().mean(wrong), RopeLine.LOST);
        Due.is("no PLACE, upper", new RopeLine().mean(0), RopeLine.LOST);
        Due.is("no PLACE, lower", new RopeLine().mean(1), RopeLine.LOST);
    }

    // ---- promise 11

    private static void onOfSort() {
        Sentence.promise(11, "GOES ON of a SORT.");
        Due.is("on(0, 0)", twoBars().on(0, 0), 7);
        Due.is("on(0, 1)", twoBars().on(0, 1), 118);
        Due.is("on(1, 0)", twoBars().on(1, 0), 35);
        Due.is("on(1, 1)", twoBars().on(1, 1), 59);
    }

    private static void onUnknown() {
        Sentence.promise(11, "LOST: UNKNOWN");
        for (int wrong : new int[] {-1, 2, 3, Integer.MIN_VALUE, Integer.MAX_VALUE}) {
            Due.is("SORT " + wrong, twoBars().on(wrong, 0), RopeLine.LOST);
        }
        Due.is("no SORTS", Texts.at("m3;c2").on(0, 1), RopeLine.LOST);
        Due.is("no PLACE", new RopeLine().on(0, 1), RopeLine.LOST);
    }

    private static void onOutside() {
        Sentence.promise(11, "OUTSIDE");
        for (int wrong : WRONG_PARTS) Due.is("which " + wrong, twoBars().on(1, wrong), RopeLine.LOST);
    }

    // ---- promise 12

    private static void lessByLength() {
        Sentence.promise(12, "ONE LESS from n.");
        Due.is("less(1, 0)", half().less(1, 0), 20);
        Due.is("less(5, 0)", half().less(5, 0), 4);
        Due.is("less(5, 1)", half().less(5, 1), 1);
        Due.is("less(1, 1)", twoBars().less(1, 1), 5);
    }

    private static void lessOutside() {
        Sentence.promise(12, "LOST: OUTSIDE: n is not 1 .. 5, which;");
        Due.is("length 0", half().less(0, 0), RopeLine.LOST);
        Due.holds("length 1", half().less(1, 0) > 0);
        Due.holds("length 5", half().less(5, 0) > 0);
        for (int wrong : WRONG_LENGTHS) Due.is("length " + wrong, half().less(wrong, 0), RopeLine.LOST);
        for (int wrong : WRONG_PARTS) Due.is("which " + wrong, half().less(1, wrong), RopeLine.LOST);
    }

    private static void lessNoPlace() {
        Sentence.promise(12, "STATE: there is no PLACE,");
        for (int n = 1; n < 6; n++) Due.is("length " + n, new RopeLine().less(n, 0), RopeLine.LOST);
    }

    private static void lessOfNever() {
        Sentence.promise(12, "or n never stand there (in the long run).");
        RopeLine x = half();
        for (int b = 0; b < 6; b++) {
            x.bar(0, b);
            for (int n = 1; n < 6; n++) {
                Due.is("BAR " + b + ", less(" + n + ", 0)", x.less(n, 0), n > b ? RopeLine.LOST : 4 * (b + 1 - n));
                Due.is("BAR " + b + ", less(" + n + ", 1)", x.less(n, 1), n > b ? RopeLine.LOST : 1);
            }
        }
        RopeLine two = twoBars();
        Due.holds("3 stand there by the greater BAR", two.less(3, 0) > 0);
        Due.is("4 never do", two.less(4, 0), RopeLine.LOST);
        for (int n = 1; n < 6; n++) Due.is("no SORTS, " + n, Texts.at("m3;c2").less(n, 1), RopeLine.LOST);
        RopeLine stood = half();
        for (int k = 0; k < 5; k++) stood.minute(11, 0);
        stood.bar(0, 2);
        Due.is("5 stand there now, but not in the long run", stood.less(5, 0), RopeLine.LOST);
    }

    // ---- promise 13

    private static void afterByLength() {
        Sentence.promise(13, "AFTER t minutes from n the share of length k.");
        RopeLine x = oneBar();
        after(x, 0, 1, 1, 1, 1);
        after(x, 0, 1, 0, 0, 1);
        after(x, 1, 0, 0, 3, 4);
        after(x, 1, 0, 1, 1, 4);
        after(x, 1, 1, 0, 3, 8);
        after(x, 1, 1, 1, 5, 8);
        after(x, 2, 0, 1, 11, 32);
    }

    private static void afterOutside() {
        Sentence.promise(13, "LOST: OUTSIDE: t, n, k (0 .. 5), which;");
        RopeLine x = half();
        for (int wrong : new int[] {-1, 9, Integer.MIN_VALUE, Integer.MAX_VALUE}) {
            Due.is("t " + wrong, x.after(wrong, 0, 0, 0), RopeLine.LOST);
        }
        Due.holds("t 8", x.after(8, 0, 0, 0) > 0);
        for (int wrong : WRONG_LENGTHS) {
            Due.is("n " + wrong, x.after(1, wrong, 0, 0), RopeLine.LOST);
            Due.is("k " + wrong, x.after(1, 0, wrong, 0), RopeLine.LOST);
        }
        Due.holds("n 5, k 5", x.after(1, 5, 5, 0) > 0);
        for (int wrong : WRONG_PARTS) Due.is("which " + wrong, x.after(0, 0, 0, wrong), RopeLine.LOST);
    }

    private static void afterNoPlace() {
        Sentence.promise(13, "STATE: there is no PLACE.");
        Due.is("after(0, 0, 0, 0)", new RopeLine().after(0, 0, 0, 0), RopeLine.LOST);
        Due.is("after(8, 5, 5, 1)", new RopeLine().after(8, 5, 5, 1), RopeLine.LOST);
    }
}
