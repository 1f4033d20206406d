/** Terms 3 and promises 14 to 20: minutes, gain, the best bars, tolls that mend, and nothing seen. */
final class BarsSentences {
    private static final int[] WRONG_LENGTHS = {-1, 6, Integer.MIN_VALUE, Integer.MAX_VALUE};
    private static final int[] WRONG_PARTS = {-1, 2, Integer.MIN_VALUE, Integer.MAX_VALUE};

    private BarsSentences() {
    }

    static void all() {
        minutesOfOne();
        hisBar();
        board();
        boardHisBar();
        gainOfBars();
        theBest();
        severalBest();
        tollsThatMend();
        blindByTwelfths();
        blindUpToFour();
        restByMean();
        restIsNone();
        restByLengths();
        restNoToll();
        minutesByLength();
        minutesTold();
        minutesOutside();
        minutesNoPlace();
        gainAsTheyAre();
        gainOutside();
        gainNoPlace();
        bestOfSort();
        bestUnknown();
        againstBySixes();
        againstThree();
        againstOutside();
        againstNoPlace();
        mendsTold();
        mendsNone();
        mendsOutside();
        mendsNoPlace();
        blindShare();
        blindOutside();
        blindNoPlace();
        blindNotOneSort();
        restTold();
        restLost();
    }

    // ---- MINUTES and HIS BAR

    private static void minutesOfOne() {
        Sentence.terms("MINUTES of one who joins as n stand there: (n and 1) times 12 by SERVED.");
        for (int m = 1; m < 12; m++) {
            RopeLine x = Texts.at("m" + m + ";c3");
            for (int n = 0; n < 6; n++) {
                Fraction due = Fraction.of(12 * (n + 1), m);
                Due.share("m " + m + ", as " + n + " stand there", x.minutes(n, 0), x.minutes(n, 1), due.part(0),
                    due.part(1));
            }
        }
    }

    // 12 by 5 is 2.4 minutes a place, at 3 a minute 7.2: a WORTH of 36 is just no less than five of them.
    private static void hisBar() {
        Sentence.terms("HIS BAR of a SORT: the greatest n (5 at most) such that for one who joins as n less 1 stand there "
            + "WORTH less TOLL is no less than COST times MINUTES (0: there is none).");
        RopeLine x = Texts.at("m5;c3;s6v36");
        int[][] tolls = {
            {0, 5}, {1, 4}, {7, 4}, {8, 3}, {14, 3}, {15, 2}, {21, 2}, {22, 1}, {28, 1}, {29, 0}, {36, 0}, {37, 0},
            {999, 0}};
        for (int[] toll : tolls) {
            x.toll(toll[0]);
            Due.is("by TOLL " + toll[0], x.ofSort(0, 3), toll[1]);
        }
        Due.is("of WORTH 999, 5 at most", Texts.at("m11;c1;s1v999").ofSort(0, 3), 5);
        Due.is("of WORTH 0", Texts.at("m11;c1;s1v0").ofSort(0, 3), 0);
        // A place costs 4 each: just no less, and one less.
        for (int n = 1; n < 6; n++) {
            Due.is("of WORTH " + 4 * n, Texts.at("m6;c2;s1v" + 4 * n).ofSort(0, 3), n);
            Due.is("of WORTH " + (4 * n - 1), Texts.at("m6;c2;s1v" + (4 * n - 1)).ofSort(0, 3), n - 1);
        }
        Due.is("just 5 of the dearest", Texts.at("m1;c9;s1v540").ofSort(0, 3), 5);
        Due.is("just not 5 of the dearest", Texts.at("m1;c9;s1v539").ofSort(0, 3), 4);
    }

    private static void told(RopeLine x, int r, int lie, int... due) {
        x.board(r, lie);
        for (int n = 0; n < due.length; n++) {
            Due.is("board(" + r + ", " + lie + "), as " + n + " stand there", x.minutes(n, 2), due[n]);
        }
    }

    private static void board() {
        Sentence.terms("With a BOARD (steps of r, 1 .. 20; a lie, -20 .. 20) MINUTES are told so: the least multiple of r "
            + "that is no less, and the lie (0 at least);");
        // 2.4, 4.8, 7.2, 9.6, 12, 14.4
        RopeLine x = Texts.at("m5;c3");
        told(x, 1, 0, 3, 5, 8, 10, 12, 15);
        told(x, 12, 0, 12, 12, 12, 12, 12, 24);
        told(x, 20, 0, 20, 20, 20, 20, 20, 20);
        told(x, 20, 20, 40, 40, 40, 40, 40, 40);
        told(x, 20, -20, 0, 0, 0, 0, 0, 0);
        told(x, 1, -20, 0, 0, 0, 0, 0, 0);
        told(x, 5, -3, 2, 2, 7, 7, 12, 12);
        told(x, 4, -5, 0, 3, 3, 7, 7, 11);
        told(x, 1, -12, 0, 0, 0, 0, 0, 3);
        told(x, 7, 1, 8, 8, 15, 15, 15, 22);
        // 12, 24 .. 72: multiples of 12 are told as they are
        RopeLine slow = Texts.at("m1;c3");
        told(slow, 12, 0, 12, 24, 36, 48, 60, 72);
        told(slow, 1, 20, 32, 44, 56, 68, 80, 92);
        told(slow, 19, 0, 19, 38, 38, 57, 76, 76);
        told(Texts.at("m11;c3"), 1, 0, 2, 3, 4, 5, 6, 7);
    }

    private static void boardHisBar() {
        Sentence.terms("HIS BAR is by these then.");
        // Told by steps of 4: 4, 8, 8, 12, 12 minutes; they cost 12, 24, 24, 36, 36.
        RopeLine x = Texts.at("m5;c3;s6v36");
        x.board(4, 0);
        int[][] tolls = {{0, 5}, {1, 3}, {12, 3}, {13, 1}, {24, 1}, {25, 0}};
        for (int[] toll : tolls) {
            x.toll(toll[0]);
            Due.is("board(4, 0), TOLL " + toll[0], x.ofSort(0, 3), toll[1]);
        }
        x.board(4, -12);
        Due.is("nothing to wait is told", x.ofSort(0, 3), 5);
        x.toll(36);
        Due.is("WORTH is just the TOLL", x.ofSort(0, 3), 5);
        x.toll(37);
        Due.is("WORTH is less than the TOLL", x.ofSort(0, 3), 0);
        x.toll(0);
        x.board(0, 0);
        Due.is("no BOARD again", x.ofSort(0, 3), 5);
        x.board(1, 1);
        Due.is("4, 6, 9, 11, 13 minutes", x.ofSort(0, 3), 4);
    }

    // ---- GAIN and THE BEST

    // By BAR b half of 12 a minute comes, 2 b by 2 b + 1 of it joins; b (b + 1) by 2 b + 1 stand there, 2 each.
    private static void gainOfBars() {
        Sentence.terms("GAIN of BARS: in a minute in the long run WORTH of those who join less COST times MEAN, a share (it "
            + "may be below 0).");
        RopeLine x = Texts.at("m6;c2;s6v12");
        RopeLine poor = Texts.at("m6;c2;s6v0");
        for (int b = 0; b < 6; b++) {
            x.bar(0, b);
            Fraction due = Fraction.of(b * (10 - 2 * b), 2 * b + 1);
            Due.share("BAR " + b, x.gain(0), x.gain(1), due.part(0), due.part(1));
            poor.bar(0, b);
            Due.share("below 0, BAR " + b, poor.gain(0), poor.gain(1), -2 * b * (b + 1), 2 * b + 1);
        }
        x.bar(0, 1);
        x.toll(11);
        x.board(20, 20);
        Due.share("whatever TOLL and BOARD", x.gain(0), x.gain(1), 8, 3);
        RopeLine two = Texts.at("m6;c2;s4v30;s3v12");
        two.bar(0, 3);
        two.bar(1, 1);
        Due.share("of two", two.gain(0), two.gain(1), 473, 59);
        Due.share("of none", Texts.at("m6;c2").gain(0), Texts.at("m6;c2").gain(1), 0, 1);
    }

    private static void theBest() {
        Sentence.terms("THE BEST: of all BARS of all SORTS those of the greatest GAIN;");
        Due.is("of half, 12", Texts.at("m6;c2;s6v12").best(0), 1);
        // One who stands there alone does so for 2 minutes in the mean, at 2 each: 5 is worth them.
        Due.is("just worth it", Texts.at("m6;c2;s3v5").best(0), 1);
        RopeLine two = Texts.at("m6;c2;s4v30;s3v12");
        Due.is("of two the first", two.best(0), 3);
        Due.is("of two the second", two.best(1), 1);
        greatest("m6;c2;s4v30;s3v12");
        greatest("m2;c1;s1v999;s5v40;s5v7");
        greatest("m11;c9;s11v999");
        greatest("m1;c9;s1v0;s10v0");
        greatest("m1;c1;s1v999;s9v999;s1v998");
    }

    private static void severalBest() {
        Sentence.terms("of several the first as a row by SORTS.");
        Due.is("just even: BAR 0 and 1 gain nothing", Texts.at("m6;c2;s3v4").best(0), 0);
        RopeLine even = Texts.at("m6;c2;s3v4");
        Due.is("they gain the same", even.against(0, 1), 0);
        RopeLine poor = Texts.at("m6;c2;s3v0;s2v0");
        Due.is("nothing to gain", poor.best(0), 0);
        Due.is("nor by the other", poor.best(1), 0);
        RopeLine evens = Texts.at("m6;c2;s3v4;s3v4");
        Due.is("0 0, 0 1 and 1 0 are even", evens.best(0), 0);
        Due.is("of them the first", evens.best(1), 0);
        greatest("m4;c4;s2v12;s2v12;s2v12");
        greatest("m6;c1;s3v5;s3v5");
        greatest("m1;c4;s1v48;s1v48;s1v48");
    }

    /** No row has more, none ahead of it as much. */
    private static void greatest(String text) {
        RopeLine x = Texts.at(text);
        int sorts = x.many(0);
        int rows = 1;
        int best = 0;
        for (int s = 0; s < sorts; s++) {
            rows *= 6;
            best = 6 * best + x.best(s);
        }
        for (int row = 0; row < rows; row++) {
            int due = x.against(best, row);
            Due.holds(text + ": row " + row, due > 0 || due == 0 && row >= best);
        }
    }

    // THE BEST is 2, a place costs 7.2: 40 less the TOLL is to be 14.4 at least and below 21.6.
    private static void tollsThatMend() {
        Sentence.terms("MENDS: TOLLS (0 .. 999, no BOARD) with which HIS BARS are THE BEST of all SORTS.");
        RopeLine some = Texts.at("m5;c3;s6v40");
        some.toll(999);
        some.board(20, 20);
        mend(some, 19, 25, 7);
        // At 0 and at 999 it is so.
        mend(Texts.at("m11;c1;s1v0"), 0, 999, 1000);
        // No SORT is left out: HIS BARS of none are THE BEST.
        mend(Texts.at("m6;c2"), 0, 999, 1000);
        agree("m5;c3;s6v40");
        agree("m3;c1;s2v60;s4v55;s1v20");
        agree("m11;c9;s1v0");
        agree("m1;c1;s1v999");
        agree("m6;c9;s1v999;s5v100");
    }

    private static void mend(RopeLine x, int least, int greatest, int many) {
        Due.is("least", x.mends(0), least);
        Due.is("greatest", x.mends(1), greatest);
        Due.is("how many", x.mends(2), many);
    }

    /** The TOLLS that mend are those that ofSort() shows to. */
    private static void agree(String text) {
        int least = RopeLine.NONE;
        int greatest = RopeLine.NONE;
        int many = 0;
        RopeLine x = Texts.at(text);
        for (int toll = 0; toll < 1000; toll++) {
            if (toll % 40 == 39) x = Texts.at(text);
            x.toll(toll);
            boolean all = true;
            for (int s = 0; s < x.many(0); s++) all &= x.ofSort(s, 3) == x.best(s);
            if (!all) continue;
            if (many == 0) least = toll;
            greatest = toll;
            many++;
        }
        mend(Texts.at(text), least, greatest, many);
    }

    // ---- BLIND and REST

    private static void blind(RopeLine x, int k, int n, long upper, long lower) {
        Due.share("blind(" + k + ", " + n + ")", x.blind(k, n, 0), x.blind(k, n, 1), upper, lower);
    }

    private static void blindByTwelfths() {
        Sentence.terms("BLIND: there is just one SORT, it joins by k twelfths (0 .. 12), whatever stands there,");
        RopeLine x = Texts.at("m5;c3;s6v40");
        for (int n = 0; n < 5; n++) blind(x, 0, n, n == 0 ? 1 : 0, 1);
        blind(x, 1, 0, 174900625, 194333761);
        blind(x, 1, 4, 4116, 194333761);
        blind(x, 6, 2, 6300, 40987);
        RopeLine sure = Texts.at("m5;c3;s6v40");
        sure.bar(0, 4);
        for (int n = 0; n < 5; n++) blind(x, 12, n, sure.often(n, 0), sure.often(n, 1));
        x.bars(2);
        x.toll(40);
        x.board(20, 20);
        blind(x, 6, 2, 6300, 40987);
        x.bar(0, 0);
        blind(x, 6, 2, 6300, 40987);
        // 6 twelfths of 6 that come are 3 that come and join: by k 12 of 3 and by k 6 of 6 lengths are the same.
        RopeLine fewer = Texts.at("m5;c3;s3v40");
        for (int n = 0; n < 5; n++) blind(fewer, 12, n, x.blind(6, n, 0), x.blind(6, n, 1));
    }

    private static void blindUpToFour() {
        Sentence.terms("as long as fewer than 4 do.");
        RopeLine x = Texts.at("m6;c2;s6v12");
        // As with BAR 4: 1 part of 9, and 2 of each other.
        for (int n = 0; n < 5; n++) blind(x, 12, n, n == 0 ? 1 : 2, 9);
        RopeLine great = Texts.at("m1;c3;s11v40");
        for (int k = 0; k < 13; k++) {
            Fraction sum = Fraction.ZERO;
            for (int n = 0; n < 5; n++) sum = sum.plus(Fraction.of(great.blind(k, n, 0), great.blind(k, n, 1)));
            Due.is("all shares of 0 .. 4 by k " + k, sum.compareTo(Fraction.ONE), 0);
        }
    }

    private static void rest(String text, int due) {
        Due.is("rest() of " + text, Texts.at(text).rest(), due);
    }

    private static void restByMean() {
        Sentence.terms("REST: the greatest k (1 on) such that WORTH of one who joins (as fewer than 4 stand there) is no less "
            + "than COST times its MINUTES in the mean");
        rest("m5;c3;s6v999", 12);
        // Of 2/12 that join by 6/12 lengths 0 to 3 are found alike often: 30 minutes in the mean.
        rest("m1;c1;s2v30", 6);
        rest("m1;c1;s2v29", 5);
        rest("m1;c9;s3v270", 4);
        rest("m1;c9;s3v269", 3);
        // By k 12 of 6 and half a minute's chance lengths 0 to 3 are found alike often, too: 5 minutes, at 2 each.
        rest("m6;c2;s6v10", 12);
        // By k 10 it is 8.37, by k 11 9.17.
        rest("m6;c2;s6v9", 10);
        for (int worth = 0; worth < 60; worth++) byFound("m5;c3;s6v" + worth, 5, 3, worth);
        for (int worth = 0; worth < 130; worth += 3) byFound("m2;c4;s11v" + worth, 2, 4, worth);
    }

    /** REST by the shares of blind(): one who comes finds one less than stood there, if one was SERVED. */
    private static void byFound(String text, int m, int c, int worth) {
        RopeLine x = Texts.at(text);
        int due = 0;
        for (int k = 1; k <= 12; k++) {
            Fraction join = Fraction.ZERO;
            Fraction places = Fraction.ZERO;
            for (int n = 0; n < 4; n++) {
                Fraction stayed = Fraction.of(n == 0 ? 12 : 12 - m, 12).times(blindOf(x, k, n));
                Fraction found = stayed.plus(Fraction.of(m, 12).times(blindOf(x, k, n + 1)));
                join = join.plus(found);
                places = places.plus(found.times(Fraction.whole(n + 1)));
            }
            Fraction cost = places.by(join).times(Fraction.of(12L * c, m));
            if (Fraction.whole(worth).compareTo(cost) >= 0) due = k;
        }
        Due.is("rest() of " + text, x.rest(), due);
    }

    private static Fraction blindOf(RopeLine x, int k, int n) {
        return Fraction.of(x.blind(k, n, 0), x.blind(k, n, 1));
    }

    private static void restIsNone() {
        Sentence.terms("(0: there is none)");
        rest("m5;c3;s6v0", 0);
        rest("m1;c9;s11v107", 0);
        // At m11, c1 one alone waits 12/11; 1 is less than the cheapest.
        rest("m11;c1;s1v1", 0);
        rest("m11;c1;s1v2", 12);
    }

    private static void restByLengths() {
        Sentence.terms("lengths come by k");
        RopeLine x = Texts.at("m1;c1;s2v29");
        int rest = x.rest();
        x.bars(2);
        Due.is("by BAR 5", x.rest(), rest);
        x.bar(0, 0);
        Due.is("by BAR 0", x.rest(), rest);
        for (int k = 0; k < 20; k++) x.minute(11, 0);
        Due.is("whoever stands there now", x.rest(), rest);
        // Twice as many who come join by half the twelfths.
        rest("m1;c1;s4v30", 3);
        rest("m1;c1;s1v30", 12);
    }

    private static void restNoToll() {
        Sentence.terms("no TOLL, no BOARD.");
        RopeLine x = Texts.at("m1;c1;s2v30");
        x.toll(999);
        Due.is("by TOLL 999", x.rest(), 6);
        x.board(20, 20);
        Due.is("by a BOARD that tells more", x.rest(), 6);
        x.board(20, -20);
        Due.is("by a BOARD that tells less", x.rest(), 6);
    }

    // ---- promise 14

    private static void minutesByLength() {
        Sentence.promise(14, "MINUTES of one who joins as n (0 .. 5) stand there, as a share;");
        RopeLine x = Texts.at("m5;c3;s6v40");
        Due.share("minutes(0)", x.minutes(0, 0), x.minutes(0, 1), 12, 5);
        Due.share("minutes(4)", x.minutes(4, 0), x.minutes(4, 1), 12, 1);
        Due.share("minutes(5)", x.minutes(5, 0), x.minutes(5, 1), 72, 5);
        x.board(20, 20);
        Due.share("minutes(5) whatever the BOARD", x.minutes(5, 0), x.minutes(5, 1), 72, 5);
    }

    private static void minutesTold() {
        Sentence.promise(14, "as the BOARD tells them (which 2; without one cut).");
        RopeLine x = Texts.at("m5;c3;s6v40");
        Due.is("cut", x.minutes(5, 2), 14);
        x.board(1, 0);
        Due.is("told", x.minutes(5, 2), 15);
        x.board(5, -3);
        Due.is("told", x.minutes(5, 2), 12);
        x.board(0, 0);
        Due.is("cut again", x.minutes(5, 2), 14);
    }

    private static void minutesOutside() {
        Sentence.promise(14, "LOST: OUTSIDE");
        RopeLine x = Texts.at("m5;c3;s6v40");
        for (int wrong : WRONG_LENGTHS) {
            for (int which = 0; which < 3; which++) {
                Due.is("length " + wrong + ", which " + which, x.minutes(wrong, which), RopeLine.LOST);
            }
        }
        for (int wrong : new int[] {-1, 3, Integer.MIN_VALUE, Integer.MAX_VALUE}) {
            Due.is("which " + wrong, x.minutes(0, wrong), RopeLine.LOST);
        }
    }

    private static void minutesNoPlace() {
        Sentence.promise(14, "STATE: there is no PLACE.");
        for (int which = 0; which < 3; which++) {
            Due.is("which " + which, new RopeLine().minutes(0, which), RopeLine.LOST);
            Due.holds("which " + which + " without SORTS", Texts.at("m5;c3").minutes(5, which) > 0);
        }
    }

    // ---- promises 15 and 16

    private static void gainAsTheyAre() {
        Sentence.promise(15, "GAIN of BARS as they are.");
        RopeLine x = Texts.at("m6;c2;s6v12");
        Due.share("BAR 0", x.gain(0), x.gain(1), 0, 1);
        x.bar(0, 2);
        Due.share("BAR 2", x.gain(0), x.gain(1), 12, 5);
        x.best(0);
        x.against(5, 4);
        Due.share("still so", x.gain(0), x.gain(1), 12, 5);
    }

    private static void gainOutside() {
        Sentence.promise(15, "LOST: OUTSIDE");
        for (int wrong : WRONG_PARTS) {
            Due.is("which " + wrong, Texts.at("m6;c2;s6v12").gain(wrong), RopeLine.LOST);
        }
    }

    private static void gainNoPlace() {
        Sentence.promise(15, "STATE: there is no PLACE.");
        Due.is("upper", new RopeLine().gain(0), RopeLine.LOST);
        Due.is("lower", new RopeLine().gain(1), RopeLine.LOST);
        Due.is("without SORTS", Texts.at("m5;c3").gain(1), 1);
    }

    private static void bestOfSort() {
        Sentence.promise(16, "THE BEST: the BAR of a SORT.");
        RopeLine x = Texts.at("m6;c2;s4v30;s3v12");
        x.toll(20);
        x.board(20, 20);
        Due.is("of the first", x.best(0), 3);
        Due.is("of the second", x.best(1), 1);
        Due.is("BARS are as they were", x.ofSort(0, 2), 0);
        // One who comes in each twelfth minute alone, served in 11 of 12: each place is worth it.
        Due.is("the greatest BAR", Texts.at("m11;c1;s1v999").best(0), 5);
    }

    private static void bestUnknown() {
        Sentence.promise(16, "UNKNOWN");
        RopeLine x = Texts.at("m6;c2;s4v30;s3v12");
        for (int wrong : new int[] {-1, 2, 3, Integer.MIN_VALUE, Integer.MAX_VALUE}) {
            Due.is("SORT " + wrong, x.best(wrong), RopeLine.UNKNOWN);
        }
        Due.is("no SORTS", Texts.at("m6;c2").best(0), RopeLine.UNKNOWN);
        Due.is("no PLACE", new RopeLine().best(0), RopeLine.UNKNOWN);
    }

    // ---- promise 17

    private static void againstBySixes() {
        Sentence.promise(17, "Whether the GAIN of one row of BARS (told by sixes: the last SORT's is the lowest)");
        RopeLine x = Texts.at("m11;c1;s1v999;s1v0");
        Due.is("1 0 and 0 1", x.against(6, 1), 1);
        Due.is("0 1 and 1 0", x.against(1, 6), -1);
        RopeLine three = Texts.at("m11;c1;s1v999;s1v9;s1v0");
        Due.is("1 0 0 and 0 5 5", three.against(36, 35), 1);
        Due.is("0 1 0 and 0 0 5", three.against(6, 5), 1);
        asGained("m1;c1;s11v9");
        asGained("m7;c3;s5v33");
        asGained("m1;c9;s1v999;s10v998");
        asGained("m11;c5;s3v17;s7v16");
        asGained("m6;c6;s4v25;s4v25");
    }

    /** against() of each two rows is as the shares that gain() tells. */
    private static void asGained(String text) {
        int sorts = Texts.at(text).many(0);
        int rows = sorts == 1 ? 6 : 36;
        Fraction[] gains = new Fraction[rows];
        for (int row = 0; row < rows; row++) {
            RopeLine x = Texts.at(text);
            x.bar(sorts - 1, row % 6);
            if (sorts == 2) x.bar(0, row / 6);
            gains[row] = Fraction.of(x.gain(0), x.gain(1));
        }
        for (int row = 0; row < rows; row++) {
            RopeLine x = Texts.at(text);
            for (int other = 0; other < rows; other++) {
                Due.is(text + ": against(" + row + ", " + other + ")", x.against(row, other),
                    gains[row].compareTo(gains[other]));
            }
        }
    }

    private static void againstThree() {
        Sentence.promise(17, "is greater than another one's (1), the same (0), less (-1).");
        RopeLine x = Texts.at("m6;c2;s6v12");
        Due.is("8/3 and 12/5", x.against(1, 2), 1);
        Due.is("12/5 and 8/3", x.against(2, 1), -1);
        Due.is("0 and 0", x.against(0, 5), 0);
        for (int row = 0; row < 6; row++) Due.is("a row and itself", x.against(row, row), 0);
        RopeLine poor = Texts.at("m6;c2;s3v0");
        Due.is("both below 0", poor.against(1, 2), 1);
        Due.is("both below 0, turned", poor.against(2, 1), -1);
        Due.is("0 and below", poor.against(0, 5), 1);
        Due.is("below and 0", poor.against(5, 0), -1);
        RopeLine alike = Texts.at("m6;c2;s1v9;s1v9;s1v9");
        Due.is("alike SORTS in another order", alike.against(5, 180), 0);
        Due.is("no SORTS", Texts.at("m6;c2").against(0, 0), 0);
    }

    private static void againstOutside() {
        Sentence.promise(17, "OUTSIDE: a number is not 0 .. 6 to the SORTS, less 1;");
        String[] texts = {"m6;c2", "m6;c2;s1v9", "m6;c2;s1v9;s1v9", "m6;c2;s1v9;s1v9;s1v9"};
        int[] rows = {1, 6, 36, 216};
        for (int k = 0; k < 4; k++) {
            RopeLine x = Texts.at(texts[k]);
            Due.is("the last row", x.against(rows[k] - 1, rows[k] - 1), 0);
            for (int wrong : new int[] {-1, rows[k], Integer.MIN_VALUE, Integer.MAX_VALUE}) {
                Due.is(texts[k] + ": against(" + wrong + ", 0)", x.against(wrong, 0), RopeLine.OUTSIDE);
                Due.is(texts[k] + ": against(0, " + wrong + ")", x.against(0, wrong), RopeLine.OUTSIDE);
            }
        }
        Due.is("no PLACE, 1", new RopeLine().against(1, 0), RopeLine.OUTSIDE);
        Due.is("no PLACE, -1", new RopeLine().against(0, -1), RopeLine.OUTSIDE);
    }

    private static void againstNoPlace() {
        Sentence.promise(17, "STATE: there is no PLACE.");
        Due.is("against(0, 0)", new RopeLine().against(0, 0), RopeLine.STATE);
    }

    // ---- promise 18

    private static void mendsTold() {
        Sentence.promise(18, "MENDS: the least TOLL (what 0), the greatest one (1), how many (2);");
        mend(Texts.at("m5;c3;s6v40"), 19, 25, 7);
        RopeLine x = Texts.at("m5;c3;s6v40");
        x.bars(1);
        x.toll(x.mends(0));
        Due.is("by the least each minds himself as is best for all", x.bars(0), 0);
        x.toll(x.mends(1));
        Due.is("by the greatest, too", x.bars(0), 0);
        x.toll(x.mends(0) - 1);
        Due.is("by one less not", x.bars(0), 1);
        x.bars(1);
        x.toll(x.mends(1) + 1);
        Due.is("by one more not", x.bars(0), 1);
    }

    // THE BEST are 3 and 1. A place costs 4 each: the first has the BAR 3 by TOLLS 15 to 18, the second 1 by 5 to 8.
    private static void mendsNone() {
        Sentence.promise(18, "NONE: there is none (what 0, 1).");
        RopeLine x = Texts.at("m6;c2;s4v30;s3v12");
        Due.is("least", x.mends(0), RopeLine.NONE);
        Due.is("greatest", x.mends(1), RopeLine.NONE);
        Due.is("how many", x.mends(2), 0);
    }

    private static void mendsOutside() {
        Sentence.promise(18, "OUTSIDE");
        for (int wrong : new int[] {-1, 3, Integer.MIN_VALUE, Integer.MAX_VALUE}) {
            Due.is("mends(" + wrong + ")", Texts.at("m5;c3;s6v40").mends(wrong), RopeLine.OUTSIDE);
            Due.is("mends(" + wrong + ") of no PLACE", new RopeLine().mends(wrong), RopeLine.OUTSIDE);
        }
    }

    private static void mendsNoPlace() {
        Sentence.promise(18, "STATE: there is no PLACE.");
        for (int what = 0; what < 3; what++) {
            Due.is("mends(" + what + ")", new RopeLine().mends(what), RopeLine.STATE);
        }
    }

    // ---- promises 19 and 20

    private static void blindShare() {
        Sentence.promise(19, "BLIND with k: the share of length n (0 .. 4).");
        RopeLine x = Texts.at("m6;c2;s6v12");
        for (int n = 0; n < 5; n++) {
            Due.is("blind(12, " + n + ", 0)", x.blind(12, n, 0), n == 0 ? 1 : 2);
            Due.is("blind(12, " + n + ", 1)", x.blind(12, n, 1), 9);
        }
        Due.is("often() is by BARS all the same", x.often(0, 1), 1);
    }

    private static void blindOutside() {
        Sentence.promise(19, "LOST: OUTSIDE: k, n, which;");
        RopeLine x = Texts.at("m5;c3;s6v40");
        for (int wrong : new int[] {-1, 13, Integer.MIN_VALUE, Integer.MAX_VALUE}) {
            Due.is("k " + wrong, x.blind(wrong, 0, 0), RopeLine.LOST);
        }
        for (int wrong : new int[] {-1, 5, Integer.MIN_VALUE, Integer.MAX_VALUE}) {
            Due.is("n " + wrong, x.blind(1, wrong, 0), RopeLine.LOST);
        }
        for (int wrong : WRONG_PARTS) Due.is("which " + wrong, x.blind(1, 0, wrong), RopeLine.LOST);
        Due.holds("k 0, n 0", x.blind(0, 0, 1) > 0);
        Due.holds("k 12, n 4", x.blind(12, 4, 1) > 0);
    }

    private static void blindNoPlace() {
        Sentence.promise(19, "STATE: there is no PLACE,");
        Due.is("upper", new RopeLine().blind(0, 0, 0), RopeLine.LOST);
        Due.is("lower", new RopeLine().blind(12, 4, 1), RopeLine.LOST);
    }

    private static void blindNotOneSort() {
        Sentence.promise(19, "or not just one SORT.");
        Due.is("none", Texts.at("m5;c3").blind(0, 0, 0), RopeLine.LOST);
        Due.is("one", Texts.at("m5;c3;s1v1").blind(0, 0, 0), 1);
        Due.is("two", Texts.at("m5;c3;s1v1;s1v1").blind(0, 0, 0), RopeLine.LOST);
        Due.is("three", Texts.at("m5;c3;s1v1;s1v1;s1v1").blind(0, 0, 0), RopeLine.LOST);
    }

    private static void restTold() {
        Sentence.promise(20, "REST.");
        rest("m5;c3;s6v0", 0);
        rest("m1;c1;s2v30", 6);
        rest("m5;c3;s6v999", 12);
    }

    private static void restLost() {
        Sentence.promise(20, "STATE: as blind().");
        Due.is("no PLACE", new RopeLine().rest(), RopeLine.STATE);
        Due.is("no SORTS", Texts.at("m5;c3").rest(), RopeLine.STATE);
        Due.is("two", Texts.at("m5;c3;s1v1;s1v1").rest(), RopeLine.STATE);
        Due.is("three", Texts.at("m5;c3;s1v1;s1v1;s1v1").rest(), RopeLine.STATE);
    }
}
