/** A MINUTE, Terms 4 and promises 21 to 26: the line, minute by minute. */
final class LineSentences {
    private static final int NONE = RopeLine.NONE;
    private static final int[] WRONG_DRAWS = {-1, 12, Integer.MIN_VALUE, Integer.MAX_VALUE};

    private LineSentences() {
    }

    static void all() {
        oneIsServed();
        oneComes();
        itJoins();
        fortyEver();
        numbered();
        kindComer();
        kindStands();
        kindDone();
        servedByDraw();
        firstCame();
        lastCame();
        greatestWorth();
        whoComes();
        hasWaited();
        envyOfPairs();
        order();
        orderOutside();
        minuteServed();
        minuteJoins();
        minuteOutside();
        minuteNoPlace();
        minuteFull();
        ofComer();
        ofComerMinutes();
        ofComerWorth();
        ofComerUnknown();
        ofComerOutside();
        leave();
        leaveUnknown();
        leaveNotThere();
        line();
        lineNone();
        lineUnknown();
        envy();
    }

    // ---- A MINUTE

    private static void oneIsServed() {
        Sentence.terms("A MINUTE: if some stand there, one is SERVED (by its chance) and goes;");
        RopeLine x = States.standing(2, 0);
        Due.is("the first draw is not below SERVED", x.minute(6, 11), 0);
        Due.is("nobody goes", x.line(-1), 2);
        Due.is("it is below it", x.minute(5, 11), 100);
        Due.is("just one goes", x.line(-1), 1);
        Due.is("the next one", x.minute(0, 11), 200);
        Due.is("none stand there", x.minute(0, 11), 0);
        Due.is("none did at first", States.standing(0, 5).minute(0, 11), 0);
        Due.is("one who comes just now is not SERVED", States.standing(0, 5).minute(0, 0), 2);
    }

    private static void oneComes() {
        Sentence.terms("then perhaps one comes, of a SORT (by their chances);");
        RopeLine x = Texts.open("m6;c2;s1v30;s10v12");
        Due.is("SORT 0", x.minute(11, 0), 2);
        Due.is("SORT 1", x.minute(11, 1), 2);
        Due.is("SORT 1", x.minute(11, 10), 2);
        Due.is("none", x.minute(11, 11), 0);
        Due.is("SORT of the first", x.ofComer(0, 1), 0);
        Due.is("SORT of the second", x.ofComer(1, 1), 1);
        Due.is("SORT of the third", x.ofComer(2, 1), 1);
        Due.is("COMERS", x.many(1), 3);
        Due.is("none comes without SORTS", Texts.at("m6;c2").minute(0, 0), 0);
    }

    private static void itJoins() {
        Sentence.terms("it joins, if fewer stand there then than the BAR of its SORT (0 .. 5), else it goes on.");
        for (int b = 0; b < 6; b++) {
            for (int many = 0; many < 6; many++) {
                Due.is("BAR " + b + ", " + many + " stand there", States.standing(many, b).minute(11, 0),
                    many < b ? 2 : 1);
                int served = many > 0 ? 100 : 0;
                int then = Math.max(many - 1, 0);
                Due.is("BAR " + b + ", one of " + many + " goes", States.standing(many, b).minute(0, 0),
                    served + (then < b ? 2 : 1));
            }
        }
        RopeLine x = Texts.at("m6;c2;s4v30;s3v12");
        x.bar(0, 1);
        Due.is("by its own BAR", x.minute(11, 0), 2);
        Due.is("not by another's", x.minute(0, 4), 101);
    }

    // ---- THE LINE

    private static void fortyEver() {
        Sentence.terms("THE LINE as it is, minute by minute: COMERS, 40 ever,");
        RopeLine x = States.standing(0, 0);
        for (int k = 0; k < 40; k++) Due.is("one of 40", x.minute(11, 0), 1);
        Due.is("one more", x.minute(11, 0), RopeLine.FULL);
        RopeLine y = States.forty();
        y.leave(0);
        y.minute(0, 11);
        Due.is("none stand there", y.line(-1), 0);
        Due.is("40 ever, all the same", y.minute(0, 0), RopeLine.FULL);
    }

    private static void numbered() {
        Sentence.terms("numbered as they come, each of a SORT,");
        RopeLine x = Texts.at("m6;c2;s4v30;s3v12;s2v9");
        x.bar(1, 1);
        int[] draws = {0, 7, 4, 11, 8, 5};
        int[] sorts = {0, 2, 1, 2, 1};
        for (int draw : draws) x.minute(11, draw);
        Due.is("COMERS", x.many(1), 5);
        for (int c = 0; c < 5; c++) Due.is("SORT of " + c, x.ofComer(c, 1), sorts[c]);
        Due.is("the one who joined", x.line(0), 2);
    }

    private static void kindComer() {
        Sentence.terms("of a kind: 0 COMER (went on, or left);");
        RopeLine x = States.standing(2, 1);
        Due.is("one goes on", x.minute(11, 0), 1);
        Due.is("its kind", x.ofComer(2, 0), 0);
        x.leave(1);
        Due.is("kind of the one who left", x.ofComer(1, 0), 0);
        Due.is("as a COMER", x.as(1, 0), 1);
        Due.is("it is no STANDS", x.as(1, 1), -12);
    }

    private static void kindStands() {
        Sentence.terms("1 STANDS, a COMER;");
        RopeLine x = States.standing(2, 1);
        Due.is("kind", x.ofComer(1, 0), 1);
        Due.is("a STANDS", x.as(1, 1), 1);
        Due.is("a COMER, too", x.as(1, 0), 1);
        Due.is("not DONE", x.as(1, 2), -12);
    }

    private static void kindDone() {
        Sentence.terms("2 DONE, a STANDS.");
        RopeLine x = States.standing(2, 1);
        x.minute(0, 11);
        Due.is("kind", x.ofComer(0, 0), 2);
        for (int kind = 0; kind < 3; kind++) Due.is("as " + kind, x.as(0, kind), 1);
        Due.is("it stands there no more, though", x.line(0), 1);
    }

    private static void servedByDraw() {
        Sentence.terms("MINUTE of two draws (0 .. 11 each): if some stand there, one is SERVED, if the first draw is below "
            + "SERVED:");
        for (int m = 1; m < 12; m++) {
            for (int first = 0; first < 12; first++) {
                RopeLine x = Texts.open("m" + m + ";c1;s2v5");
                x.minute(11, 0);
                Due.is("m" + m + ", first draw " + first, x.minute(first, 11), first < m ? 100 : 0);
            }
        }
    }

    private static void firstCame() {
        Sentence.terms("by ORDER 0 the one that came first,");
        RopeLine x = States.four();
        for (int k = 0; k < 4; k++) Due.is("SERVED", x.minute(0, 11), 100 * (k + 1));
        RopeLine left = States.four();
        left.leave(0);
        Due.is("the first of those who stand there", left.minute(0, 11), 200);
    }

    private static void lastCame() {
        Sentence.terms("1 that came last,");
        RopeLine x = States.four();
        x.order(1);
        Due.is("not the one who comes just now", x.minute(0, 0), 402);
        Due.is("but a minute later", x.minute(0, 11), 500);
        for (int k = 3; k > 0; k--) Due.is("SERVED", x.minute(0, 11), 100 * k);
        RopeLine left = States.four();
        left.order(1);
        left.leave(3);
        Due.is("the last of those who stand there", left.minute(0, 11), 300);
    }

    private static void greatestWorth() {
        Sentence.terms("2 of the greatest WORTH (of several the first);");
        RopeLine x = States.four();
        x.order(2);
        x.toll(999);
        Due.is("of two of 30 the first", x.minute(0, 11), 200);
        Due.is("the other", x.minute(0, 11), 300);
        Due.is("of two of 12 the first", x.minute(0, 11), 100);
        Due.is("the other, and one of 30 comes", x.minute(0, 4), 402);
        RopeLine poor = Texts.open("m6;c2;s4v0;s4v0");
        poor.order(2);
        poor.minute(11, 4);
        poor.minute(11, 0);
        Due.is("of two of 0 the first", poor.minute(0, 11), 100);
    }

    // SORT 0 by 0 and 1, SORT 1 by 2 to 4, SORT 2 by 5, none by 6 to 11.
    private static void whoComes() {
        Sentence.terms("the second draw tells who comes: SORT 0, if it is below its twelfths; else SORT 1, if less those it is "
            + "below its; and so on; none.");
        int[] due = {0, 0, 1, 1, 1, 2, -1, -1, -1, -1, -1, -1};
        for (int second = 0; second < 12; second++) {
            RopeLine x = Texts.open("m4;c1;s2v5;s3v6;s1v7");
            Due.is("second draw " + second, x.minute(0, second), due[second] < 0 ? 0 : 2);
            Due.is("its SORT", x.ofComer(0, 1), due[second]);
        }
        RopeLine most = Texts.open("m4;c1;s11v5");
        Due.is("10 of 11 twelfths", most.minute(11, 10), 2);
        Due.is("11 of them", most.minute(11, 11), 0);
    }

    private static void hasWaited() {
        Sentence.terms("HAS WAITED: minutes in which one stood there as they began.");
        RopeLine x = Texts.open("m6;c2;s4v30");
        x.minute(11, 0);
        Due.is("not the minute in which it came", x.ofComer(0, 2), 0);
        x.minute(11, 11);
        Due.is("the next one", x.ofComer(0, 2), 1);
        x.minute(0, 0);
        Due.is("the one in which it was SERVED", x.ofComer(0, 2), 2);
        Due.is("the next one just came", x.ofComer(1, 2), 0);
        x.minute(11, 11);
        Due.is("none of one who is DONE", x.ofComer(0, 2), 2);
        x.leave(1);
        x.minute(11, 11);
        Due.is("none of one who left", x.ofComer(1, 2), 1);
        x.bar(0, 0);
        x.minute(11, 0);
        x.minute(11, 11);
        Due.is("none of one who went on", x.ofComer(2, 2), 0);
        Due.is("a refused minute is none", x.minute(12, 0), RopeLine.OUTSIDE);
        RopeLine full = States.forty();
        full.minute(0, 0);
        Due.is("nor is one that would be too FULL", full.ofComer(0, 2), 39);
    }

    // By last come 3, 2, 1, 0 are SERVED: each pair of four; one that left or stands there is in none.
    private static void envyOfPairs() {
        Sentence.terms("ENVY: pairs of those who are DONE of which the one came ahead and was SERVED behind the other.");
        RopeLine x = States.four();
        x.order(1);
        int[] due = {0, 1, 3, 6};
        for (int k = 0; k < 4; k++) {
            x.minute(0, 11);
            Due.is("last come, " + (k + 1) + " are DONE", x.envy(), due[k]);
        }
        RopeLine first = States.four();
        for (int k = 0; k < 4; k++) first.minute(0, 11);
        Due.is("first come", first.envy(), 0);
        RopeLine left = States.four();
        left.minute(0, 11);
        left.leave(1);
        left.order(1);
        left.minute(0, 11);
        Due.is("those who left or stand there are in none", left.envy(), 0);
        left.minute(0, 11);
        Due.is("one pair", left.envy(), 1);
    }

    // ---- promises 21 and 22

    private static void order() {
        Sentence.promise(21, "ORDER becomes v: what it was (0 at first).");
        RopeLine x = new RopeLine();
        Due.is("order(2) at first", x.order(2), 0);
        Due.is("order(1)", x.order(1), 2);
        Due.is("order(1)", x.order(1), 1);
        Due.is("order(0)", x.order(0), 1);
        Due.is("order(0)", x.order(0), 0);
    }

    private static void orderOutside() {
        Sentence.promise(21, "OUTSIDE.");
        RopeLine x = new RopeLine();
        x.order(2);
        for (int wrong : new int[] {-1, 3, Integer.MIN_VALUE, Integer.MAX_VALUE}) {
            Due.is("order(" + wrong + ")", x.order(wrong), RopeLine.OUTSIDE);
        }
        Due.is("it is as it was", x.order(0), 2);
    }

    private static void minuteServed() {
        Sentence.promise(22, "A MINUTE: 100 times the one who is SERVED and 1 (0: none),");
        Due.is("COMER 0", States.standing(1, 5).minute(0, 11), 100);
        Due.is("none", States.standing(1, 5).minute(11, 11), 0);
        RopeLine x = States.standing(0, 0);
        for (int k = 0; k < 39; k++) x.minute(11, 0);
        x.bar(0, 1);
        x.minute(11, 0);
        Due.is("COMER 39", x.minute(0, 11), 4000);
    }

    private static void minuteJoins() {
        Sentence.promise(22, "and 2 if one joins, 1 if one comes and goes on.");
        Due.is("one joins", States.standing(0, 1).minute(11, 0), 2);
        Due.is("one goes on", States.standing(1, 1).minute(11, 0), 1);
        Due.is("none comes", States.standing(1, 1).minute(11, 4), 0);
        Due.is("one goes, one joins", States.standing(1, 1).minute(0, 3), 102);
        Due.is("one goes, one goes on", States.standing(2, 1).minute(0, 3), 101);
        Due.is("minutes there were", States.forty().many(4), 40);
    }

    private static void minuteOutside() {
        Sentence.promise(22, "OUTSIDE: draws;");
        RopeLine x = States.standing(1, 5);
        for (int wrong : WRONG_DRAWS) {
            Due.is("minute(" + wrong + ", 0)", x.minute(wrong, 0), RopeLine.OUTSIDE);
            Due.is("minute(0, " + wrong + ")", x.minute(0, wrong), RopeLine.OUTSIDE);
            Due.is("minute(" + wrong + ", 0) of no PLACE", new RopeLine().minute(wrong, 0), RopeLine.OUTSIDE);
        }
        Due.is("minutes there were", x.many(4), 1);
        Due.is("COMERS", x.many(1), 1);
        Due.is("minute(11, 11)", x.minute(11, 11), 0);
        Due.is("minute(0, 0)", x.minute(0, 0), 102);
    }

    private static void minuteNoPlace() {
        Sentence.promise(22, "STATE: there is no PLACE;");
        RopeLine x = new RopeLine();
        Due.is("minute(0, 0)", x.minute(0, 0), RopeLine.STATE);
        Due.is("minute(11, 11)", x.minute(11, 11), RopeLine.STATE);
        Due.is("minutes there were", x.many(4), 0);
    }

    private static void minuteFull() {
        Sentence.promise(22, "FULL: one would come, and there were 40.");
        RopeLine x = States.forty();
        Due.is("one would join", x.minute(0, 3), RopeLine.FULL);
        x.bar(0, 0);
        Due.is("one would go on", x.minute(11, 0), RopeLine.FULL);
        Due.is("nobody is SERVED then", x.many(2), 2);
        Due.is("nor is it a minute", x.many(4), 40);
        Due.is("none would come", x.minute(0, 4), 100);
        Due.is("in which it was SERVED", x.ofComer(0, 4), 40);
        Due.is("none would come", x.minute(11, 11), 0);
        Due.is("minutes there were", x.many(4), 42);
    }

    // ---- promise 23

    private static void told(RopeLine x, int c, int... due) {
        for (int what = 0; what < due.length; what++) {
            Due.is("ofComer(" + c + ", " + what + ")", x.ofComer(c, what), due[what]);
        }
    }

    private static void ofComer() {
        Sentence.promise(23, "Of a COMER: 0 kind, 1 SORT, 2 HAS WAITED,");
        RopeLine x = States.kinds();
        told(x, 0, 2, 2, 2);
        told(x, 1, 1, 1, 1);
        told(x, 2, 0, 0, 0);
    }

    private static void ofComerMinutes() {
        Sentence.promise(23, "3 in which minute it came (from 0 on), 4 in which it was SERVED (NONE),");
        RopeLine x = Texts.open("m6;c2;s4v30");
        x.minute(0, 0);
        Due.is("it came in the first", x.ofComer(0, 3), 0);
        Due.is("it was not SERVED", x.ofComer(0, 4), NONE);
        x.minute(0, 0);
        Due.is("it was SERVED in the second", x.ofComer(0, 4), 1);
        Due.is("in which the next one came", x.ofComer(1, 3), 1);
        x.leave(1);
        x.minute(0, 11);
        Due.is("one who left was not SERVED", x.ofComer(1, 4), NONE);
        x.bar(0, 0);
        x.minute(0, 0);
        x.minute(0, 11);
        Due.is("one who went on came", x.ofComer(2, 3), 3);
        Due.is("and was not SERVED", x.ofComer(2, 4), NONE);
    }

    private static void ofComerWorth() {
        Sentence.promise(23, "5 WORTH less COST times what it HAS WAITED (DONE; else 0).");
        RopeLine x = States.kinds();
        Due.is("DONE, waited 2", x.ofComer(0, 5), 9 - 2 * 2);
        Due.is("STANDS", x.ofComer(1, 5), 0);
        Due.is("went on", x.ofComer(2, 5), 0);
        x.minute(11, 11);
        x.minute(0, 11);
        Due.is("DONE, waited 3, whatever the TOLL", x.ofComer(1, 5), 12 - 2 * 3);
        RopeLine poor = Texts.open("m6;c9;s4v1");
        poor.minute(11, 0);
        poor.minute(11, 11);
        poor.minute(0, 0);
        Due.is("below 0", poor.ofComer(0, 5), -17);
        poor.minute(11, 11);
        poor.leave(1);
        Due.is("left, though it waited", poor.ofComer(1, 5), 0);
    }

    private static void ofComerUnknown() {
        Sentence.promise(23, "UNKNOWN");
        RopeLine x = States.kinds();
        for (int wrong : new int[] {-1, 3, 40, Integer.MIN_VALUE, Integer.MAX_VALUE}) {
            Due.is("ofComer(" + wrong + ", 0)", x.ofComer(wrong, 0), RopeLine.UNKNOWN);
        }
        Due.is("COMER 3 and what 6", x.ofComer(3, 6), RopeLine.UNKNOWN);
        RopeLine full = States.forty();
        Due.is("the last of 40", full.ofComer(39, 3), 39);
        Due.is("one behind", full.ofComer(40, 3), RopeLine.UNKNOWN);
        Due.is("no PLACE", new RopeLine().ofComer(0, 0), RopeLine.UNKNOWN);
    }

    private static void ofComerOutside() {
        Sentence.promise(23, "OUTSIDE.");
        for (int wrong : new int[] {-1, 6, Integer.MIN_VALUE, Integer.MAX_VALUE}) {
            Due.is("ofComer(0, " + wrong + ")", States.kinds().ofComer(0, wrong), RopeLine.OUTSIDE);
        }
    }

    // ---- promises 24 to 26

    private static void leave() {
        Sentence.promise(24, "One who STANDS leaves: how many stand there then.");
        RopeLine x = States.four();
        Due.is("from the middle", x.leave(1), 3);
        Due.is("behind it", x.line(1), 2);
        Due.is("from the end", x.leave(3), 2);
        Due.is("nobody there", x.line(2), NONE);
        Due.is("from ahead", x.leave(0), 1);
        Due.is("the one who stays", x.line(0), 2);
        Due.is("the last", x.leave(2), 0);
        Due.is("none stand there", x.line(-1), 0);
        Due.is("none is DONE", x.many(3), 0);
    }

    private static void leaveUnknown() {
        Sentence.promise(24, "UNKNOWN");
        RopeLine x = States.four();
        for (int wrong : new int[] {-1, 4, 40, Integer.MIN_VALUE, Integer.MAX_VALUE}) {
            Due.is("leave(" + wrong + ")", x.leave(wrong), RopeLine.UNKNOWN);
        }
        Due.is("no PLACE", new RopeLine().leave(0), RopeLine.UNKNOWN);
    }

    private static void leaveNotThere() {
        Sentence.promise(24, "STATE: it does not stand there.");
        RopeLine x = States.kinds();
        Due.is("one who is DONE", x.leave(0), RopeLine.STATE);
        Due.is("one who went on", x.leave(2), RopeLine.STATE);
        x.leave(1);
        Due.is("one who left", x.leave(1), RopeLine.STATE);
        Due.is("it is counted once", x.many(2), 0);
    }

    private static void line() {
        Sentence.promise(25, "The k-th of THE LINE as they came (k -1: how many): the COMER;");
        RopeLine x = States.standing(5, 5);
        Due.is("how many", x.line(-1), 5);
        for (int k = 0; k < 5; k++) Due.is("line(" + k + ")", x.line(k), k);
        x.order(1);
        x.minute(0, 0);
        Due.is("the last one went, the next one came", x.line(4), 5);
        x.leave(1);
        int[] due = {0, 2, 3, 5};
        for (int k = 0; k < 4; k++) Due.is("line(" + k + ")", x.line(k), due[k]);
        Due.is("how many", x.line(-1), 4);
    }

    private static void lineNone() {
        Sentence.promise(25, "NONE.");
        for (int many = 0; many < 6; many++) {
            RopeLine x = States.standing(many, 5);
            for (int k = 0; k < 5; k++) Due.is("line(" + k + ") of " + many, x.line(k), k < many ? k : NONE);
        }
        for (int k = 0; k < 5; k++) Due.is("line(" + k + ") of no PLACE", new RopeLine().line(k), NONE);
        Due.is("line(-1) of no PLACE", new RopeLine().line(-1), 0);
    }

    private static void lineUnknown() {
        Sentence.promise(25, "UNKNOWN: k is not -1 .. 4.");
        for (int wrong : new int[] {-2, 5, Integer.MIN_VALUE, Integer.MAX_VALUE}) {
            Due.is("line(" + wrong + ")", States.standing(5, 5).line(wrong), RopeLine.UNKNOWN);
            Due.is("line(" + wrong + ") of no PLACE", new RopeLine().line(wrong), RopeLine.UNKNOWN);
        }
    }

    private static void envy() {
        Sentence.promise(26, "ENVY.");
        Due.is("no PLACE", new RopeLine().envy(), 0);
        RopeLine x = States.four();
        x.order(1);
        for (int k = 0; k < 4; k++) x.minute(0, 11);
        Due.is("all pairs of four", x.envy(), 6);
        // Of 40 the first four are SERVED behind all others, the last of them ahead; the others as they came.
        RopeLine most = Texts.open("m6;c2;s4v30");
        most.order(1);
        for (int k = 0; k < 40; k++) most.minute(k < 5 ? 11 : 0, 0);
        for (int k = 0; k < 5; k++) most.minute(0, 11);
        Due.is("of 40", most.envy(), 4 * 36 + 6);
    }
}
