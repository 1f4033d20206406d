/** Promises 14 to 20: minutes, gain, the best bars, tolls that mend, and nothing seen. */
public final class BarsTest {
    public static void main(String[] args) {
        minutes();
        gain();
        best();
        against();
        mends();
        blind();
        rest();
        Due.end();
    }

    private static void share(String call, long upper, long lower, long dueUpper, long dueLower) {
        Due.is(call + " upper", upper, dueUpper);
        Due.is(call + " lower", lower, dueLower);
    }

    private static void minutes() {
        RopeLine x = Texts.at("m5;c3;s6v40");
        share("14: minutes(0)", x.minutes(0, 0), x.minutes(0, 1), 12, 5);
        share("14: minutes(4)", x.minutes(4, 0), x.minutes(4, 1), 12, 1);
        share("14: minutes(5)", x.minutes(5, 0), x.minutes(5, 1), 72, 5);
        Due.is("14: cut", x.minutes(5, 2), 14);
        int[][] boards = {
            {1, 0, 0, 3}, {1, 0, 4, 12}, {1, 0, 5, 15}, {5, 0, 0, 5}, {5, -3, 1, 2}, {5, -20, 5, 0}, {20, -20, 5, 0},
            {20, 20, 0, 40}, {7, -7, 2, 7}, {12, 0, 4, 12}, {12, 0, 5, 24}, {13, -1, 5, 25}};
        for (int[] b : boards) {
            x.board(b[0], b[1]);
            Due.is("14: board " + b[0] + ", " + b[1] + " at " + b[2], x.minutes(b[2], 2), b[3]);
            share("14: the share is as it was", x.minutes(0, 0), x.minutes(0, 1), 12, 5);
        }
        for (int wrong : new int[] {-1, 6, Integer.MIN_VALUE, Integer.MAX_VALUE}) {
            Due.is("14: length " + wrong, x.minutes(wrong, 0), RopeLine.LOST);
            Due.is("14: told length " + wrong, x.minutes(wrong, 2), RopeLine.LOST);
        }
        Due.is("14: which -1", x.minutes(0, -1), RopeLine.LOST);
        Due.is("14: which 3", x.minutes(0, 3), RopeLine.LOST);
        Due.is("14: no place", new RopeLine().minutes(0, 2), RopeLine.LOST);
    }

    // By the numbers of LongRunTest.oneBar: a quarter comes, 4/5 of them join: 12/5 of WORTH; 2 * 2/5 of COST.
    private static void gain() {
        RopeLine x = Texts.at("m6;c2;s3v12");
        share("15: of bar 0", x.gain(0), x.gain(1), 0, 1);
        x.bar(0, 1);
        share("15: of bar 1", x.gain(0), x.gain(1), 8, 5);
        x.toll(11);
        x.board(20, 20);
        share("15: whatever the toll and the board", x.gain(0), x.gain(1), 8, 5);
        RopeLine poor = Texts.at("m6;c2;s3v0");
        poor.bar(0, 1);
        share("15: below 0", poor.gain(0), poor.gain(1), -4, 5);
        RopeLine two = Texts.at("m6;c2;s4v30;s3v12");
        two.bar(0, 3);
        two.bar(1, 1);
        share("15: of two", two.gain(0), two.gain(1), 473, 59);
        share("15: of none", Texts.at("m6;c2").gain(0), Texts.at("m6;c2").gain(1), 0, 1);
        Due.is("15: which -1", x.gain(-1), RopeLine.LOST);
        Due.is("15: which 2", x.gain(2), RopeLine.LOST);
        Due.is("15: no place", new RopeLine().gain(0), RopeLine.LOST);
    }

    private static void best() {
        RopeLine poor = Texts.at("m6;c2;s3v0;s2v0");
        poor.bars(2);
        Due.is("16: nothing to gain", poor.best(0), 0);
        Due.is("16: nor by the other", poor.best(1), 0);
        Due.is("16: by nobody", poor.ofSort(0, 2), 5);
        // One who stands there alone does so for 2 minutes in the mean: 5 is worth them, 4 is just even.
        Due.is("16: just worth it", Texts.at("m6;c2;s3v5").best(0), 1);
        Due.is("16: just even, and of several the first", Texts.at("m6;c2;s3v4").best(0), 0);
        RopeLine two = Texts.at("m6;c2;s4v30;s3v12");
        Due.is("16: of two the first", two.best(0), 3);
        Due.is("16: of two the second", two.best(1), 1);
        Due.is("16: sort 2", poor.best(2), RopeLine.UNKNOWN);
        Due.is("16: sort -1", poor.best(-1), RopeLine.UNKNOWN);
        Due.is("16: no place", new RopeLine().best(0), RopeLine.UNKNOWN);
        greatest("m6;c2;s4v30;s3v12");
        greatest("m2;c1;s1v999;s5v40;s5v7");
        greatest("m11;c9;s11v999");
        greatest("m1;c1;s1v999;s9v999;s1v998");
        greatest("m4;c4;s2v12;s2v12;s2v12");
    }

    /** No row has more, none ahead of it as much. */
    private static void greatest(String text) {
        RopeLine x = Texts.at(text);
        int sorts = x.many(0);
        int rows = 1;
        int best = 0;
        for (int s = 0; s < sorts; s++) {
            rows *= 6;
            best = 6 * best + x.best(s);
        }
        for (int row = 0; row < rows; row++) {
            int due = x.against(best, row);
            Due.holds("16: " + text + ": row " + row, due > 0 || due == 0 && row >= best);
        }
    }

    private static void against() {
        RopeLine x = Texts.at("m6;c2;s4v30;s3v12");
        Due.is("17: more", x.against(19, 0), 1);
        Due.is("17: less", x.against(0, 19), -1);
        Due.is("17: the same", x.against(20, 20), 0);
        Due.is("17: last", x.against(35, 35), 0);
        Due.is("17: 36", x.against(36, 0), RopeLine.OUTSIDE);
        Due.is("17: others 36", x.against(0, 36), RopeLine.OUTSIDE);
        Due.is("17: -1", x.against(-1, 0), RopeLine.OUTSIDE);
        Due.is("17: others -1", x.against(0, -1), RopeLine.OUTSIDE);
        RopeLine order = Texts.at("m11;c1;s1v999;s1v0");
        Due.is("17: the last sort's is the lowest", order.against(6, 1), 1);
        Due.is("17: and the first's the highest", order.against(1, 6), -1);
        RopeLine none = Texts.at("m6;c2");
        Due.is("17: no sorts", none.against(0, 0), 0);
        Due.is("17: no sorts, 1", none.against(1, 0), RopeLine.OUTSIDE);
        Due.is("17: no place", new RopeLine().against(0, 0), RopeLine.STATE);
        Due.is("17: no place, 1", new RopeLine().against(0, 1), RopeLine.OUTSIDE);
        RopeLine three = Texts.at("m6;c2;s1v9;s1v9;s1v9");
        Due.is("17: 215", three.against(215, 215), 0);
        Due.is("17: 216", three.against(215, 216), RopeLine.OUTSIDE);
        // Rows of alike sorts gain alike in any order; below 0 too.
        Due.is("17: alike", three.against(5, 180), 0);
        RopeLine poor = Texts.at("m6;c2;s3v0");
        Due.is("17: both below 0", poor.against(1, 2), 1);
        Due.is("17: both below 0, turned", poor.against(2, 1), -1);
        Due.is("17: 0 and below", poor.against(0, 5), 1);
        asGained("m1;c1;s11v9");
        asGained("m7;c3;s5v33");
        asGained("m1;c9;s1v999;s10v998");
        asGained("m11;c5;s3v17;s7v16");
        asGained("m6;c6;s4v25;s4v25");
    }

    /** against() of each two rows is as the shares that gain() tells. */
    private static void asGained(String text) {
        int sorts = Texts.at(text).many(0);
        int rows = sorts == 1 ? 6 : 36;
        Fraction[] gains = new Fraction[rows];
        for (int row = 0; row < rows; row++) {
            RopeLine x = Texts.at(text);
            x.bar(sorts - 1, row % 6);
            if (sorts == 2) x.bar(0, row / 6);
            gains[row] = Fraction.of(x.gain(0), x.gain(1));
        }
        for (int row = 0; row < rows; row++) {
            RopeLine x = Texts.at(text);
            for (int other = 0; other < rows; other++) {
                Due.is("17: " + text + ": against(" + row + ", " + other + ")", x.against(row, other),
                    gains[row].compareTo(gains[other]));
            }
        }
    }

    private static void mends() {
        RopeLine none = Texts.at("m6;c2");
        Due.is("18: no sorts, least", none.mends(0), 0);
        Due.is("18: no sorts, greatest", none.mends(1), 999);
        Due.is("18: no sorts, all", none.mends(2), 1000);
        agree("m5;c3;s6v40");
        agree("m6;c2;s4v30;s3v12");
        agree("m3;c1;s2v60;s4v55;s1v20");
        agree("m11;c9;s1v0");
        agree("m6;c9;s1v999;s5v100");
        RopeLine apart = Texts.at("m6;c9;s1v999;s5v100");
        Due.is("18: -1", apart.mends(-1), RopeLine.OUTSIDE);
        Due.is("18: 3", apart.mends(3), RopeLine.OUTSIDE);
        Due.is("18: no place", new RopeLine().mends(0), RopeLine.STATE);
        Due.is("18: 3, no place", new RopeLine().mends(3), RopeLine.OUTSIDE);
        nothingMends();
    }

    /** The tolls that mend are those that ofSort() shows to. */
    private static void agree(String text) {
        RopeLine told = Texts.at(text);
        told.board(20, 20);
        told.toll(7);
        int least = RopeLine.NONE;
        int greatest = RopeLine.NONE;
        int many = 0;
        RopeLine x = Texts.at(text);
        for (int toll = 0; toll < 1000; toll++) {
            if (toll % 100 == 99) x = Texts.at(text);
            x.toll(toll);
            boolean all = true;
            for (int s = 0; s < x.many(0); s++) all &= x.ofSort(s, 3) == x.best(s);
            if (!all) continue;
            if (many == 0) least = toll;
            greatest = toll;
            many++;
        }
        Due.is("18: least of " + text, told.mends(0), least);
        Due.is("18: greatest of " + text, told.mends(1), greatest);
        Due.is("18: how many of " + text, told.mends(2), many);
    }

    // THE BEST are 3 and 1. A place costs 4 each: the first has the BAR 3 by TOLLS 15 to 18, the second 1 by 5 to 8.
    private static void nothingMends() {
        RopeLine x = Texts.at("m6;c2;s4v30;s3v12");
        Due.is("18: none, least", x.mends(0), RopeLine.NONE);
        Due.is("18: none, greatest", x.mends(1), RopeLine.NONE);
        Due.is("18: none", x.mends(2), 0);
        RopeLine all = Texts.at("m11;c1;s1v0");
        Due.is("18: all mend, least", all.mends(0), 0);
        Due.is("18: all mend, greatest", all.mends(1), 999);
        Due.is("18: all mend", all.mends(2), 1000);
        // THE BEST is 2, a place costs 7.2: 40 less the TOLL is to be 14.4 at least and below 21.6.
        RopeLine some = Texts.at("m5;c3;s6v40");
        Due.is("18: some mend, least", some.mends(0), 19);
        Due.is("18: some mend, greatest", some.mends(1), 25);
        Due.is("18: some mend", some.mends(2), 7);
    }

    private static void blind() {
        RopeLine x = Texts.at("m5;c3;s6v40");
        share("19: k 0", x.blind(0, 0, 0), x.blind(0, 0, 1), 1, 1);
        share("19: k 0, 4", x.blind(0, 4, 0), x.blind(0, 4, 1), 0, 1);
        share("19: k 1", x.blind(1, 0, 0), x.blind(1, 0, 1), 174900625, 194333761);
        share("19: k 1, 4", x.blind(1, 4, 0), x.blind(1, 4, 1), 4116, 194333761);
        share("19: k 6, 2", x.blind(6, 2, 0), x.blind(6, 2, 1), 6300, 40987);
        RopeLine sure = Texts.at("m5;c3;s6v40");
        sure.bar(0, 4);
        for (int n = 0; n < 5; n++) {
            share("19: k 12 is a bar of 4", x.blind(12, n, 0), x.blind(12, n, 1), sure.often(n, 0), sure.often(n, 1));
        }
        x.bars(2);
        x.toll(40);
        share("19: whatever the bars", x.blind(6, 2, 0), x.blind(6, 2, 1), 6300, 40987);
        Due.is("19: k -1", x.blind(-1, 0, 0), RopeLine.LOST);
        Due.is("19: k 13", x.blind(13, 0, 0), RopeLine.LOST);
        Due.is("19: n -1", x.blind(1, -1, 0), RopeLine.LOST);
        Due.is("19: n 5", x.blind(1, 5, 0), RopeLine.LOST);
        Due.is("19: which -1", x.blind(1, 0, -1), RopeLine.LOST);
        Due.is("19: which 2", x.blind(1, 0, 2), RopeLine.LOST);
        Due.is("19: no place", new RopeLine().blind(1, 0, 0), RopeLine.LOST);
        Due.is("19: no sorts", Texts.at("m5;c3").blind(1, 0, 0), RopeLine.LOST);
        Due.is("19: two sorts", Texts.at("m5;c3;s1v1;s1v1").blind(1, 0, 0), RopeLine.LOST);
        RopeLine great = Texts.at("m1;c3;s11v40");
        Fraction sum = Fraction.ZERO;
        for (int n = 0; n < 5; n++) sum = sum.plus(Fraction.of(great.blind(12, n, 0), great.blind(12, n, 1)));
        Due.is("19: all shares", sum.compareTo(Fraction.ONE), 0);
    }

    private static void rest() {
        Due.is("20: no place", new RopeLine().rest(), RopeLine.STATE);
        Due.is("20: no sorts", Texts.at("m5;c3").rest(), RopeLine.STATE);
        Due.is("20: two sorts", Texts.at("m5;c3;s1v1;s1v1").rest(), RopeLine.STATE);
        Due.is("20: worth nothing", Texts.at("m5;c3;s6v0").rest(), 0);
        Due.is("20: worth all", Texts.at("m5;c3;s6v999").rest(), 12);
        RopeLine x = Texts.at("m5;c3;s6v8");
        int rest = x.rest();
        x.toll(999);
        x.board(20, 20);
        x.bars(2);
        Due.is("20: no toll, no board, no bars", x.rest(), rest);
        // At m11, c1 one alone waits 12/11; 1 is less than the cheapest.
        Due.is("20: one is too dear", Texts.at("m11;c1;s1v1").rest(), 0);
        Due.is("20: two is not", Texts.at("m11;c1;s1v2").rest(), 12);
        // Of 2/12 that join by 6/12 lengths 1 to 3 are found alike often: 30 minutes in the mean.
        Due.is("20: just even", Texts.at("m1;c1;s2v30").rest(), 6);
        Due.is("20: one less", Texts.at("m1;c1;s2v29").rest(), 5);
        Due.is("20: just even by the greatest cost", Texts.at("m1;c9;s3v270").rest(), 4);
        for (int worth = 0; worth < 60; worth++) byFound("m5;c3;s6v" + worth, 5, 3, worth);
        for (int worth = 0; worth < 130; worth += 3) byFound("m2;c4;s11v" + worth, 2, 4, worth);
    }

    /** REST by the shares of blind(): one who comes finds one less than stood there, if one was SERVED. */
    private static void byFound(String text, int m, int c, int worth) {
        RopeLine x = Texts.at(text);
        int due = 0;
        for (int k = 1; k <= 12; k++) {
            Fraction join = Fraction.ZERO;
            Fraction places = Fraction.ZERO;
            for (int n = 0; n < 4; n++) {
                Fraction stayed = Fraction.of(n == 0 ? 12 : 12 - m, 12).times(blindOf(x, k, n));
                Fraction found = stayed.plus(Fraction.of(m, 12).times(blindOf(x, k, n + 1)));
                join = join.plus(found);
                places = places.plus(found.times(Fraction.whole(n + 1)));
            }
            Fraction cost = places.by(join).times(Fraction.of(12L * c, m));
            if (Fraction.whole(worth).compareTo(cost) >= 0) due = k;
        }
        Due.is("20: rest of " + text, x.rest(), due);
    }

    private static Fraction blindOf(RopeLine x, int k, int n) {
        return Fraction.of(x.blind(k, n, 0), x.blind(k, n, 1));
    }
}
