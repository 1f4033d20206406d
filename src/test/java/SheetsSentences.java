/** Terms 5 and promises 27 to 36: sheets, and the telling of comers by bodies. */
final class SheetsSentences {
    private static final int LEAST = Integer.MIN_VALUE, GREATEST = Integer.MAX_VALUE;
    private static final int[] NO_SHEETS = {-1, 4, LEAST, GREATEST};
    private static final int[] NO_COMERS = {-1, 3, 40, LEAST, GREATEST};
    private static final int[] PUT = {127, 128, -128, -129, 255, 256, 32767, 32768, -32768, -32769, 65535, 65536,
        GREATEST, LEAST};

    private SheetsSentences() {
    }

    static void all() {
        nothingAtFirst();
        rowsOfZeros();
        bytes();
        shorts();
        ints();
        cutToItsLane();
        traceWraps();
        tellingComer();
        tellingStands();
        tellingDone();
        calledByLent();
        doneHaveTheirOwn();
        sheet();
        sheetUnknown();
        sheetOutside();
        sheetSize();
        lose();
        loseUnknown();
        put();
        putUnknown();
        putNull();
        putIndex();
        cell();
        cellLost();
        cellCast();
        cellNull();
        cellIndex();
        tell();
        tellUnknown();
        call();
        callUnknown();
        as();
        asUnknown();
        asOutside();
        asCast();
        trace();
        faultOfTheLatest();
        faultNone();
        many();
        manyOutside();
    }

    // ---- SHEETS and LANES

    private static void nothingAtFirst() {
        Sentence.terms("SHEETS 0 .. 3 have nothing (at first),");
        RopeLine x = new RopeLine();
        for (int k = 0; k < 4; k++) {
            Due.is("put to " + k, x.put(k, 0, 1), -11);
            Due.is("lose " + k, x.lose(k), 0);
        }
        for (int wrong : NO_SHEETS) Due.is("lose " + wrong, x.lose(wrong), RopeLine.UNKNOWN);
    }

    private static void rowsOfZeros() {
        Sentence.terms("or a row of 0 .. 60 numbers (0 at first) of a LANE:");
        for (int lane = 0; lane < 3; lane++) {
            RopeLine x = new RopeLine();
            Due.is("60", x.sheet(1, lane, 60), 1);
            for (int i = 0; i < 60; i++) {
                Due.is("cell " + i, x.cell(1, i, lane), 0);
                x.put(1, i, 7);
            }
            Due.is("there is no cell 60", x.put(1, 60, 1), -13);
            Due.is("1", x.sheet(1, lane, 1), 1);
            Due.is("it is 0 again", x.cell(1, 0, lane), 0);
            x.sheet(1, lane, 60);
            for (int i = 0; i < 60; i++) Due.is("cell " + i + " is 0 again", x.cell(1, i, lane), 0);
            Due.is("0", x.sheet(1, lane, 0), 1);
            Due.is("there is no cell 0", x.put(1, 0, 1), -13);
            Due.is("61", x.sheet(1, lane, 61), RopeLine.OUTSIDE);
        }
    }

    private static void cells(int lane, long... due) {
        RopeLine x = new RopeLine();
        x.sheet(2, lane, 2);
        for (int k = 0; k < PUT.length; k++) {
            Due.is("put " + PUT[k], x.put(2, 1, PUT[k]), 1);
            Due.is("cell of " + PUT[k], x.cell(2, 1, lane), due[k]);
        }
        Due.is("the cell beside", x.cell(2, 0, lane), 0);
    }

    private static void bytes() {
        Sentence.terms("0 bytes,");
        cells(0, 127, -128, -128, 127, -1, 0, -1, 0, 0, -1, -1, 0, -1, 0);
    }

    private static void shorts() {
        Sentence.terms("1 shorts,");
        cells(1, 127, 128, -128, -129, 255, 256, 32767, -32768, -32768, 32767, -1, 0, -1, 0);
    }

    private static void ints() {
        Sentence.terms("2 ints;");
        cells(2, 127, 128, -128, -129, 255, 256, 32767, 32768, -32768, -32769, 65535, 65536, GREATEST, LEAST);
    }

    private static void cutToItsLane() {
        Sentence.terms("what comes to a cell of it is cut to its LANE.");
        RopeLine x = new RopeLine();
        for (int lane = 0; lane < 3; lane++) x.sheet(lane, lane, 1);
        int[][] due = {{-70000, -112, -4464, -70000}, {70000, 112, 4464, 70000}, {200, -56, 200, 200}};
        for (int[] d : due) {
            for (int lane = 0; lane < 3; lane++) {
                x.put(lane, 0, d[0]);
                Due.is(d[0] + " in LANE " + lane, x.cell(lane, 0, lane), d[lane + 1]);
            }
        }
    }

    // ---- TELLING

    private static void traceWraps() {
        Sentence.terms("TELLING of COMERS by bodies that leave their number in TRACE (an int that wraps, 0 at first, becomes "
            + "31 times it and the number) as they begin:");
        RopeLine x = States.kinds();
        Due.is("TRACE at first", x.trace(), 0);
        int due = 0;
        boolean wrapped = false;
        for (int k = 0; k < 20; k++) {
            x.tell(2);
            wrapped |= 31L * due + 1 != 31 * due + 1;
            due = 31 * due + 1;
            Due.is("TRACE behind " + (k + 1), x.trace(), due);
        }
        Due.holds("it has wrapped", wrapped);
        RopeLine y = States.kinds();
        y.tell(0);
        Due.is("each body as it begins: 3, 2, 1, 1", y.trace(), ((3 * 31 + 2) * 31 + 1) * 31 + 1);
    }

    private static void tellingComer() {
        Sentence.terms("COMER (1): its SORT.");
        RopeLine x = States.kinds();
        Due.is("tell of SORT 0, went on", x.tell(2), 0);
        Due.is("TRACE", x.trace(), 1);
        x.leave(1);
        Due.is("tell of SORT 1, left, though it waited", x.tell(1), 1);
        Due.is("TRACE", x.trace(), 32);
    }

    private static void tellingStands() {
        Sentence.terms("STANDS (2): what COMER's gives, and 10 times how long it HAS WAITED.");
        RopeLine x = States.kinds();
        Due.is("tell of SORT 1, waited 1", x.tell(1), 11);
        Due.is("TRACE", x.trace(), 2 * 31 + 1);
        x.minute(11, 11);
        Due.is("waited 2", x.tell(1), 21);
        x.minute(11, 7);
        Due.is("SORT 2, just came", x.tell(3), 2);
    }

    private static void tellingDone() {
        Sentence.terms("DONE (3): what STANDS's gives, and what COMER's gives (STANDS's left out).");
        RopeLine x = States.kinds();
        Due.is("tell of SORT 2, waited 2", x.tell(0), 2 + 20 + 2);
        Due.is("TRACE", x.trace(), ((3 * 31 + 2) * 31 + 1) * 31 + 1);
        x.minute(0, 11);
        Due.is("tell of SORT 1, waited 2", x.tell(1), 1 + 20 + 1);
    }

    private static void calledByLent() {
        Sentence.terms("CALLED by a lent body (4): its number;");
        RopeLine x = States.kinds();
        Due.is("STANDS", x.call(1), 1);
        Due.is("TRACE", x.trace(), 4);
        Due.is("went on", x.call(2), 2);
        Due.is("TRACE", x.trace(), 4 * 31 + 4);
        x.leave(1);
        Due.is("left", x.call(1), 1);
        RopeLine y = States.standing(1, 1);
        Due.is("the first", y.call(0), 0);
        Due.is("the last of 40", States.forty().call(39), 39);
    }

    private static void doneHaveTheirOwn() {
        Sentence.terms("DONE ones have their own (5): 90.");
        RopeLine x = States.kinds();
        Due.is("DONE", x.call(0), 90);
        Due.is("TRACE", x.trace(), 5);
        x.minute(0, 11);
        Due.is("the next one", x.call(1), 90);
        Due.is("TRACE", x.trace(), 5 * 31 + 5);
    }

    // ---- promises 27 and 28

    private static void sheet() {
        Sentence.promise(27, "A SHEET gets a new row: 1.");
        RopeLine x = new RopeLine();
        for (int k = 0; k < 4; k++) {
            Due.is("SHEET " + k, x.sheet(k, 2, 60), 1);
            x.put(k, 0, 10 + k);
            x.put(k, 59, 20 + k);
        }
        Due.is("SHEET 1 anew, of another LANE", x.sheet(1, 0, 60), 1);
        Due.is("its first cell", x.cell(1, 0, 0), 0);
        Due.is("its last cell", x.cell(1, 59, 0), 0);
        Due.is("not as of the LANE it was", x.cell(1, 0, 2), RopeLine.LOST);
        Due.is("the one ahead is as it was", x.cell(0, 59, 2), 20);
        Due.is("the one behind is as it was", x.cell(2, 0, 2), 12);
        Due.is("none at all", x.sheet(3, 2, 0), 1);
        Due.is("is a row", x.lose(3), 1);
    }

    private static void sheetUnknown() {
        Sentence.promise(27, "UNKNOWN");
        for (int wrong : NO_SHEETS) Due.is("SHEET " + wrong, new RopeLine().sheet(wrong, 0, 1), RopeLine.UNKNOWN);
        Due.is("SHEET 4, LANE 3, -1", new RopeLine().sheet(4, 3, -1), RopeLine.UNKNOWN);
    }

    private static void sheetOutside() {
        Sentence.promise(27, "OUTSIDE: lane, n above 60;");
        RopeLine x = new RopeLine();
        for (int wrong : new int[] {-1, 3, LEAST, GREATEST}) {
            Due.is("LANE " + wrong, x.sheet(0, wrong, 1), RopeLine.OUTSIDE);
            Due.is("LANE " + wrong + ", -1", x.sheet(0, wrong, -1), RopeLine.OUTSIDE);
        }
        Due.is("61", x.sheet(0, 0, 61), RopeLine.OUTSIDE);
        Due.is("the greatest", x.sheet(0, 0, GREATEST), RopeLine.OUTSIDE);
        Due.is("there is no row", x.lose(0), 0);
        Due.is("60", x.sheet(0, 0, 60), 1);
    }

    private static void sheetSize() {
        Sentence.promise(27, "SIZE.");
        RopeLine x = new RopeLine();
        x.sheet(0, 1, 3);
        x.put(0, 2, 7);
        Due.is("-1", x.sheet(0, 0, -1), -14);
        Due.is("fault()", x.fault(), 4);
        Due.is("the least", x.sheet(0, 0, LEAST), -14);
        Due.is("the row stays", x.cell(0, 2, 1), 7);
        Due.is("0", x.sheet(0, 0, 0), 1);
        Due.is("fault()", x.fault(), 0);
    }

    private static void lose() {
        Sentence.promise(28, "A SHEET has nothing: 1; 0: it had nothing.");
        RopeLine x = new RopeLine();
        for (int k = 0; k < 4; k++) {
            x.sheet(k, 0, 3 * k);
            Due.is("it had a row", x.lose(k), 1);
            Due.is("it had nothing", x.lose(k), 0);
            Due.is("there is nothing", x.put(k, 0, 1), -11);
        }
        x.sheet(1, 0, 3);
        Due.is("the other had nothing", x.lose(0), 0);
        Due.is("this one is there", x.put(1, 2, 1), 1);
        Due.is("it had a row again", x.lose(1), 1);
    }

    private static void loseUnknown() {
        Sentence.promise(28, "UNKNOWN.");
        for (int wrong : NO_SHEETS) Due.is("SHEET " + wrong, new RopeLine().lose(wrong), RopeLine.UNKNOWN);
    }

    // ---- promises 29 and 30

    private static void put() {
        Sentence.promise(29, "Cell i of a SHEET becomes v: 1.");
        RopeLine x = new RopeLine();
        for (int k = 0; k < 4; k++) {
            x.sheet(k, 2, 60);
            Due.is("the first of " + k, x.put(k, 0, 7 + k), 1);
            Due.is("the last of " + k, x.put(k, 59, -7 - k), 1);
        }
        for (int k = 0; k < 4; k++) {
            Due.is("the first of " + k, x.cell(k, 0, 2), 7 + k);
            Due.is("the one beside", x.cell(k, 1, 2), 0);
            Due.is("the last of " + k, x.cell(k, 59, 2), -7 - k);
        }
    }

    private static void putUnknown() {
        Sentence.promise(29, "UNKNOWN");
        for (int wrong : NO_SHEETS) Due.is("SHEET " + wrong, new RopeLine().put(wrong, 0, 1), RopeLine.UNKNOWN);
    }

    private static void putNull() {
        Sentence.promise(29, "NULL");
        RopeLine x = new RopeLine();
        Due.is("never had a row", x.put(0, 0, 1), -11);
        Due.is("fault()", x.fault(), 1);
        x.sheet(0, 0, 1);
        x.lose(0);
        Due.is("lost it", x.put(0, 0, 1), -11);
        Due.is("cell -1 of it", x.put(0, -1, 1), -11);
    }

    private static void putIndex() {
        Sentence.promise(29, "INDEX.");
        for (int n : new int[] {0, 1, 3, 60}) {
            RopeLine x = new RopeLine();
            x.sheet(0, 1, 60);
            x.sheet(0, 0, n);
            for (int wrong : new int[] {-1, n, n + 1, 60, LEAST, GREATEST}) {
                Due.is("cell " + wrong + " of " + n, x.put(0, wrong, 1), -13);
                Due.is("fault()", x.fault(), 3);
            }
            if (n > 0) Due.is("the last of " + n, x.put(0, n - 1, 1), 1);
        }
    }

    private static void lost(RopeLine x, int k, int i, int lane, int fault) {
        String call = "cell(" + k + ", " + i + ", " + lane + ")";
        x.put(3, 0, 0);
        Due.is(call, x.cell(k, i, lane), RopeLine.LOST);
        Due.is("fault() of " + call, x.fault(), fault);
    }

    private static void cell() {
        Sentence.promise(30, "Cell i of what a SHEET has, taken as a row of a LANE.");
        RopeLine x = new RopeLine();
        for (int lane = 0; lane < 3; lane++) {
            x.sheet(lane, lane, 3);
            for (int i = 0; i < 3; i++) x.put(lane, i, -100 * i - lane);
        }
        long[][] due = {{0, -100, 56}, {-1, -101, -201}, {-2, -102, -202}};
        for (int lane = 0; lane < 3; lane++) {
            for (int i = 0; i < 3; i++) {
                Due.is("cell " + i + " of LANE " + lane, x.cell(lane, i, lane), due[lane][i]);
                Due.is("fault()", x.fault(), 0);
            }
        }
    }

    private static void cellLost() {
        Sentence.promise(30, "LOST: UNKNOWN, OUTSIDE: lane;");
        RopeLine x = States.kinds();
        for (int wrong : NO_SHEETS) lost(x, wrong, 0, 0, 0);
        for (int wrong : new int[] {-1, 3, LEAST, GREATEST}) {
            lost(x, 1, 0, wrong, 0);
            lost(x, 3, 0, wrong, 0);
        }
    }

    private static void cellCast() {
        Sentence.promise(30, "FAULTS CAST (nothing is no CAST),");
        RopeLine x = States.kinds();
        lost(x, 1, 0, 0, 2);
        lost(x, 1, 0, 2, 2);
        lost(x, 1, 5, 2, 2);
        lost(x, 2, 0, 1, 2);
        for (int lane = 0; lane < 3; lane++) lost(x, 3, 0, lane, 1);
        x.lose(1);
        lost(x, 1, 0, 0, 1);
    }

    private static void cellNull() {
        Sentence.promise(30, "NULL,");
        for (int k = 0; k < 4; k++) lost(new RopeLine(), k, 0, 0, 1);
        lost(new RopeLine(), 0, -1, 2, 1);
    }

    private static void cellIndex() {
        Sentence.promise(30, "INDEX.");
        RopeLine x = States.kinds();
        for (int wrong : new int[] {-1, 5, 6, 60, LEAST, GREATEST}) lost(x, 1, wrong, 1, 3);
        lost(x, 2, 0, 2, 3);
        Due.is("the last of 5", x.cell(1, 4, 1), '2');
    }

    // ---- promises 31 to 34

    private static void tell() {
        Sentence.promise(31, "TELLING of a COMER.");
        int[] due = {24, 11, 0};
        for (int c = 0; c < 3; c++) Due.is("tell(" + c + ")", States.kinds().tell(c), due[c]);
    }

    private static void tellUnknown() {
        Sentence.promise(31, "UNKNOWN.");
        RopeLine x = States.kinds();
        for (int wrong : NO_COMERS) Due.is("tell(" + wrong + ")", x.tell(wrong), RopeLine.UNKNOWN);
        Due.is("nothing is left in TRACE", x.trace(), 0);
        Due.is("no PLACE", new RopeLine().tell(0), RopeLine.UNKNOWN);
    }

    private static void call() {
        Sentence.promise(32, "How it is CALLED.");
        int[] due = {90, 1, 2};
        for (int c = 0; c < 3; c++) Due.is("call(" + c + ")", States.kinds().call(c), due[c]);
    }

    private static void callUnknown() {
        Sentence.promise(32, "UNKNOWN.");
        RopeLine x = States.kinds();
        for (int wrong : NO_COMERS) Due.is("call(" + wrong + ")", x.call(wrong), RopeLine.UNKNOWN);
        Due.is("nothing is left in TRACE", x.trace(), 0);
        Due.is("no PLACE", new RopeLine().call(0), RopeLine.UNKNOWN);
    }

    private static void as() {
        Sentence.promise(33, "A COMER, taken as one of a kind: 1.");
        RopeLine x = States.kinds();
        Due.is("DONE as DONE", x.as(0, 2), 1);
        Due.is("STANDS as STANDS", x.as(1, 1), 1);
        Due.is("COMER as COMER", x.as(2, 0), 1);
        Due.is("fault()", x.fault(), 0);
        Due.is("TRACE", x.trace(), 0);
    }

    private static void asUnknown() {
        Sentence.promise(33, "UNKNOWN");
        RopeLine x = States.kinds();
        for (int wrong : NO_COMERS) {
            Due.is("as(" + wrong + ", 0)", x.as(wrong, 0), RopeLine.UNKNOWN);
            Due.is("as(" + wrong + ", 3)", x.as(wrong, 3), RopeLine.UNKNOWN);
        }
        Due.is("no PLACE", new RopeLine().as(0, 0), RopeLine.UNKNOWN);
    }

    private static void asOutside() {
        Sentence.promise(33, "OUTSIDE");
        RopeLine x = States.kinds();
        for (int wrong : new int[] {-1, 3, LEAST, GREATEST}) {
            for (int c = 0; c < 3; c++) {
                Due.is("as(" + c + ", " + wrong + ")", x.as(c, wrong), RopeLine.OUTSIDE);
            }
        }
        Due.is("fault()", x.fault(), 0);
    }

    private static void asCast() {
        Sentence.promise(33, "CAST: it is none (each is a COMER, too; a DONE one is a STANDS).");
        RopeLine x = States.kinds();
        int[] kindOf = {2, 1, 0};
        for (int c = 0; c < 3; c++) {
            for (int kind = 0; kind < 3; kind++) {
                Due.is("as(" + c + ", " + kind + ")", x.as(c, kind), kind <= kindOf[c] ? 1 : -12);
                Due.is("fault()", x.fault(), kind <= kindOf[c] ? 0 : 2);
            }
        }
        x.leave(1);
        Due.is("one who left is no STANDS", x.as(1, 1), -12);
    }

    private static void trace() {
        Sentence.promise(34, "TRACE.");
        RopeLine x = States.kinds();
        Due.is("TRACE at first", new RopeLine().trace(), 0);
        Due.is("COMERS that come leave nothing", x.trace(), 0);
        x.call(0);
        x.call(1);
        Due.is("5, 4", x.trace(), 5 * 31 + 4);
        x.ofComer(0, 5);
        x.as(0, 1);
        x.envy();
        Due.is("other calls leave nothing", x.trace(), 5 * 31 + 4);
        x.tell(1);
        Due.is("5, 4, 2, 1", x.trace(), ((5 * 31 + 4) * 31 + 2) * 31 + 1);
        Due.is("nor does trace() itself", x.trace(), ((5 * 31 + 4) * 31 + 2) * 31 + 1);
    }

    // ---- promises 35 and 36

    private static void faultOfTheLatest() {
        Sentence.promise(35, "The FAULT of the latest call that names one:");
        RopeLine x = States.kinds();
        x.as(2, 2);
        Due.is("CAST of as()", x.fault(), 2);
        x.about(9);
        x.tell(9);
        x.often(9, 9);
        x.minute(99, 0);
        x.lose(9);
        x.lose(3);
        x.lose(0);
        x.many(9);
        x.minute(11, 11);
        Due.is("other calls name none", x.fault(), 2);
        x.sheet(0, 0, -1);
        Due.is("SIZE of sheet()", x.fault(), 4);
        x.put(1, 99, 0);
        Due.is("INDEX of put()", x.fault(), 3);
        x.cell(3, 0, 0);
        Due.is("NULL of cell()", x.fault(), 1);
        x.place(1, 0, 0, 1);
        Due.is("CAST of place()", x.fault(), 2);
        Due.is("it is told again", x.fault(), 2);
    }

    private static void faultNone() {
        Sentence.promise(35, "0: it came to none, or was refused (0 ahead of any).");
        Due.is("ahead of any", new RopeLine().fault(), 0);
        for (int call = 0; call < 10; call++) {
            RopeLine x = States.kinds();
            x.put(3, 0, 0);
            Due.is("NULL", x.fault(), 1);
            named(x, call);
            Due.is("behind call " + call, x.fault(), 0);
        }
    }

    /** Calls that name FAULTS: five that come to none, five that are refused. */
    private static void named(RopeLine x, int call) {
        switch (call) {
            case 0: x.sheet(3, 0, 1); break;
            case 1: x.put(1, 0, 1); break;
            case 2: x.cell(1, 0, 1); break;
            case 3: x.as(0, 0); break;
            case 4: x.place(1, 1, 0, 5); break;
            case 5: x.sheet(4, 0, -1); break;
            case 6: x.put(4, 0, 1); break;
            case 7: x.cell(1, 0, 3); break;
            case 8: x.as(2, 3); break;
            default: x.place(1, 3, 0, -1);
        }
    }

    private static void many() {
        Sentence.promise(36, "How many: 0 SORTS, 1 COMERS, 2 who stand there, 3 who are DONE, 4 minutes there were.");
        RopeLine x = States.kinds();
        int[] due = {3, 3, 1, 1, 3};
        for (int what = 0; what < 5; what++) {
            Due.is("many(" + what + ")", x.many(what), due[what]);
            Due.is("many(" + what + ") of no PLACE", new RopeLine().many(what), 0);
        }
        x.leave(1);
        Due.is("one left: who stand there", x.many(2), 0);
        Due.is("one left: who are DONE", x.many(3), 1);
        Due.is("one left: COMERS", x.many(1), 3);
        x.minute(0, 11);
        Due.is("a minute more", x.many(4), 4);
        x.minute(12, 0);
        Due.is("a refused one is none", x.many(4), 4);
        RopeLine full = States.forty();
        Due.is("COMERS", full.many(1), 40);
    }

    private static void manyOutside() {
        Sentence.promise(36, "OUTSIDE.");
        for (int wrong : new int[] {-1, 5, LEAST, GREATEST}) {
            Due.is("many(" + wrong + ")", States.kinds().many(wrong), RopeLine.OUTSIDE);
            Due.is("many(" + wrong + ") of no PLACE", new RopeLine().many(wrong), RopeLine.OUTSIDE);
        }
    }
}
