/** Promises 21 to 26: the line, minute by minute. */
public final class LineTest {
    public static void main(String[] args) {
        order();
        draws();
        minuteRefusals();
        goesOn();
        firstCome();
        lastCome();
        byWorth();
        forty();
        ofComer();
        leave();
        line();
        envy();
        Due.end();
    }

    private static void order() {
        RopeLine x = new RopeLine();
        Due.is("21: to 2", x.order(2), 0);
        Due.is("21: to 1", x.order(1), 2);
        Due.is("21: to 0", x.order(0), 1);
        Due.is("21: -1", x.order(-1), RopeLine.OUTSIDE);
        Due.is("21: 3", x.order(3), RopeLine.OUTSIDE);
        Due.is("21: still 0", x.order(0), 0);
    }

    // SORT 0 by 0 and 1, SORT 1 by 2 to 4, SORT 2 by 5, none by 6 to 11.
    private static void draws() {
        int[] due = {0, 0, 1, 1, 1, 2, -1, -1, -1, -1, -1, -1};
        for (int second = 0; second < 12; second++) {
            RopeLine x = Texts.at("m4;c1;s2v5;s3v6;s1v7");
            x.bars(2);
            Due.is("22: second draw " + second, x.minute(0, second), due[second] < 0 ? 0 : 2);
            Due.is("22: its sort", x.ofComer(0, 1), due[second]);
        }
        for (int first = 0; first < 12; first++) {
            RopeLine x = Texts.at("m4;c1;s2v5;s3v6;s1v7");
            x.bars(2);
            x.minute(11, 0);
            Due.is("22: first draw " + first, x.minute(first, 11), first < 4 ? 100 : 0);
        }
    }

    private static void minuteRefusals() {
        RopeLine x = Texts.at("m4;c1;s2v5");
        Due.is("22: first -1", x.minute(-1, 0), RopeLine.OUTSIDE);
        Due.is("22: first 12", x.minute(12, 0), RopeLine.OUTSIDE);
        Due.is("22: second -1", x.minute(0, -1), RopeLine.OUTSIDE);
        Due.is("22: second 12", x.minute(0, 12), RopeLine.OUTSIDE);
        Due.is("22: no minutes", x.many(4), 0);
        Due.is("22: no comers", x.many(1), 0);
        Due.is("22: no place", new RopeLine().minute(0, 0), RopeLine.STATE);
        Due.is("22: no place, 12", new RopeLine().minute(12, 0), RopeLine.OUTSIDE);
    }

    // One who comes sees the line as it is after the one who is SERVED has gone.
    private static void goesOn() {
        RopeLine x = Texts.at("m6;c2;s4v30;s3v12");
        Due.is("22: bar 0", x.minute(0, 0), 1);
        x.bar(0, 1);
        Due.is("22: bar 1, empty", x.minute(0, 0), 2);
        Due.is("22: bar 1, one stands there", x.minute(11, 0), 1);
        Due.is("22: bar 1, one goes", x.minute(0, 0), 202);
        Due.is("22: the other sort goes on", x.minute(0, 4), 401);
        Due.is("22: nobody stands there", x.minute(0, 11), 0);
        Due.is("36: comers", x.many(1), 5);
        Due.is("36: standing", x.many(2), 0);
        Due.is("36: done", x.many(3), 2);
        Due.is("36: minutes", x.many(4), 6);
        x.bar(0, 5);
        for (int k = 0; k < 5; k++) Due.is("22: joins as " + k + " stand there", x.minute(11, 0), 2);
        Due.is("22: five stand there", x.minute(11, 0), 1);
        Due.is("22: five stood there", x.minute(0, 0), 602);
    }

    private static RopeLine three() {
        RopeLine x = Texts.at("m6;c2;s4v12;s3v30;s1v30");
        x.bars(2);
        x.minute(11, 0);
        x.minute(11, 4);
        x.minute(11, 7);
        x.minute(11, 3);
        return x;
    }

    private static void firstCome() {
        RopeLine x = three();
        for (int k = 0; k < 4; k++) Due.is("22: first come", x.minute(0, 11), 100 * (k + 1));
    }

    private static void lastCome() {
        RopeLine x = three();
        x.order(1);
        for (int k = 4; k > 0; k--) Due.is("22: last come", x.minute(0, 11), 100 * k);
    }

    private static void byWorth() {
        RopeLine x = three();
        x.order(2);
        x.toll(999);
        Due.is("22: by worth, of two the first", x.minute(0, 11), 200);
        Due.is("22: by worth, the other", x.minute(0, 11), 300);
        Due.is("22: by worth, of the rest the first", x.minute(0, 11), 100);
        Due.is("22: by worth, one comes just now", x.minute(0, 4), 402);
    }

    private static void forty() {
        RopeLine x = Texts.at("m6;c2;s4v30");
        x.bar(0, 2);
        for (int k = 0; k < 40; k++) x.minute(11, 0);
        Due.is("22: forty", x.many(1), 40);
        Due.is("22: one would come", x.minute(0, 3), RopeLine.FULL);
        Due.is("22: nothing has changed", x.many(2), 2);
        Due.is("22: nor the minutes", x.many(4), 40);
        Due.is("22: nor the waiting", x.ofComer(0, 2), 39);
        Due.is("22: none would come", x.minute(0, 4), 100);
        Due.is("22: it goes on", x.ofComer(0, 4), 40);
        Due.is("22: outside before full", x.minute(12, 0), RopeLine.OUTSIDE);
        Due.is("22: the last one", x.ofComer(39, 3), 39);
        Due.is("22: no further one", x.ofComer(40, 3), RopeLine.UNKNOWN);
        Texts.read(x, "m6;c2;s4v30");
        Due.is("22: a new place has room again", x.minute(0, 3), 1);
    }

    private static void ofComer(RopeLine x, int c, int... due) {
        for (int what = 0; what < due.length; what++) {
            Due.is("23: ofComer(" + c + ", " + what + ")", x.ofComer(c, what), due[what]);
        }
    }

    private static void ofComer() {
        RopeLine x = Texts.at("m6;c2;s4v30;s3v12");
        x.bar(0, 5);
        x.minute(0, 11);
        x.minute(0, 0);
        ofComer(x, 0, 1, 0, 0, 1, RopeLine.NONE, 0);
        x.minute(11, 5);
        ofComer(x, 0, 1, 0, 1, 1, RopeLine.NONE, 0);
        ofComer(x, 1, 0, 1, 0, 2, RopeLine.NONE, 0);
        x.minute(11, 11);
        x.minute(5, 1);
        x.toll(9);
        ofComer(x, 0, 2, 0, 3, 1, 4, 24);
        ofComer(x, 2, 1, 0, 0, 4, RopeLine.NONE, 0);
        x.minute(11, 11);
        ofComer(x, 0, 2, 0, 3, 1, 4, 24);
        ofComer(x, 1, 0, 1, 0, 2, RopeLine.NONE, 0);
        x.leave(2);
        x.minute(11, 11);
        ofComer(x, 2, 0, 0, 1, 4, RopeLine.NONE, 0);
        Due.is("23: what -1", x.ofComer(0, -1), RopeLine.OUTSIDE);
        Due.is("23: what 6", x.ofComer(0, 6), RopeLine.OUTSIDE);
        Due.is("23: comer -1", x.ofComer(-1, 6), RopeLine.UNKNOWN);
        Due.is("23: comer 3", x.ofComer(3, 6), RopeLine.UNKNOWN);
        Due.is("23: no place", new RopeLine().ofComer(0, 6), RopeLine.UNKNOWN);
        RopeLine poor = Texts.at("m6;c9;s4v1");
        poor.bar(0, 1);
        poor.minute(11, 0);
        poor.minute(11, 11);
        poor.minute(0, 11);
        Due.is("23: below 0", poor.ofComer(0, 5), -17);
    }

    private static void leave() {
        RopeLine x = three();
        Due.is("24: from the middle", x.leave(1), 3);
        Due.is("24: again", x.leave(1), RopeLine.STATE);
        Due.is("24: its kind", x.ofComer(1, 0), 0);
        Due.is("24: behind it", x.line(1), 2);
        Due.is("24: from the end", x.leave(3), 2);
        Due.is("24: nobody there", x.line(2), RopeLine.NONE);
        Due.is("24: from ahead", x.leave(0), 1);
        Due.is("24: the one left", x.line(0), 2);
        Due.is("24: is SERVED", x.minute(0, 0), 302);
        Due.is("24: one who is DONE", x.leave(2), RopeLine.STATE);
        Due.is("24: -1", x.leave(-1), RopeLine.UNKNOWN);
        Due.is("24: 5", x.leave(5), RopeLine.UNKNOWN);
        Due.is("24: the last", x.leave(4), 0);
        x.bar(0, 0);
        x.minute(0, 0);
        Due.is("24: one who went on", x.leave(5), RopeLine.STATE);
        Due.is("24: no place", new RopeLine().leave(0), RopeLine.UNKNOWN);
    }

    private static void line() {
        RopeLine none = new RopeLine();
        Due.is("25: none", none.line(-1), 0);
        for (int k = 0; k < 5; k++) Due.is("25: " + k + " of none", none.line(k), RopeLine.NONE);
        RopeLine x = three();
        Due.is("25: four", x.line(-1), 4);
        for (int k = 0; k < 4; k++) Due.is("25: " + k, x.line(k), k);
        Due.is("25: 4", x.line(4), RopeLine.NONE);
        Due.is("25: 5", x.line(5), RopeLine.UNKNOWN);
        Due.is("25: -2", x.line(-2), RopeLine.UNKNOWN);
        x.minute(0, 0);
        x.minute(11, 0);
        Due.is("25: five", x.line(-1), 5);
        Due.is("25: the last of five", x.line(4), 5);
    }

    // By last come 3, 2, 1, 0 are SERVED: each pair of four; one that left or stands there is in none.
    private static void envy() {
        RopeLine x = three();
        x.order(1);
        int[] due = {0, 1, 3, 6};
        for (int k = 0; k < 4; k++) {
            x.minute(0, 11);
            Due.is("26: after " + (k + 1), x.envy(), due[k]);
        }
        RopeLine y = three();
        y.minute(0, 11);
        y.leave(1);
        y.order(1);
        y.minute(0, 11);
        Due.is("26: those who left are in none", y.envy(), 0);
        y.minute(0, 11);
        Due.is("26: one pair", y.envy(), 1);
        Due.is("26: no place", new RopeLine().envy(), 0);
    }
}
