/** Promises 27 to 36: sheets, and the telling of comers by bodies. */
public final class SheetsTest {
    public static void main(String[] args) {
        sheet();
        lose();
        put();
        cut();
        cell();
        tell();
        call();
        as();
        faultOfTheLatest();
        many();
        Due.end();
    }

    private static void sheet() {
        RopeLine x = new RopeLine();
        for (int k = 0; k < 4; k++) {
            for (int lane = 0; lane < 3; lane++) {
                Due.is("27: sheet " + k + " of lane " + lane, x.sheet(k, lane, 60), 1);
                Due.is("27: 0 at first", x.cell(k, 59, lane), 0);
                x.put(k, 59, 5);
                x.put(k, 0, 6);
            }
        }
        Due.is("27: a shorter one", x.sheet(1, 2, 1), 1);
        Due.is("27: is 0 again", x.cell(1, 0, 2), 0);
        Due.is("27: and no longer", x.cell(1, 1, 2), RopeLine.LOST);
        x.sheet(1, 2, 60);
        Due.is("27: what was is never seen", x.cell(1, 59, 2), 0);
        Due.is("27: the one ahead is as it was", x.cell(0, 59, 2), 5);
        Due.is("27: the one behind is as it was", x.cell(2, 0, 2), 6);
        Due.is("27: none at all", x.sheet(0, 0, 0), 1);
        Due.is("27: has no cell", x.put(0, 0, 1), -13);
        Due.is("27: but is there", x.lose(0), 1);
        Due.is("27: sheet 4", x.sheet(4, 3, -1), RopeLine.UNKNOWN);
        Due.is("27: sheet -1", x.sheet(-1, 0, 0), RopeLine.UNKNOWN);
        Due.is("27: lane 3", x.sheet(0, 3, -1), RopeLine.OUTSIDE);
        Due.is("27: lane -1", x.sheet(0, -1, 1), RopeLine.OUTSIDE);
        Due.is("27: 61", x.sheet(0, 0, 61), RopeLine.OUTSIDE);
        Due.is("27: greatest", x.sheet(0, 0, Integer.MAX_VALUE), RopeLine.OUTSIDE);
        Due.is("27: no fault", x.fault(), 0);
        Due.is("27: -1", x.sheet(0, 0, -1), -14);
        Due.is("27: fault SIZE", x.fault(), 4);
        Due.is("27: least", x.sheet(2, 0, Integer.MIN_VALUE), -14);
        Due.is("27: the row stays", x.cell(2, 0, 2), 6);
    }

    private static void lose() {
        RopeLine x = new RopeLine();
        x.sheet(2, 0, 3);
        Due.is("28: has", x.lose(2), 1);
        Due.is("28: had nothing", x.lose(2), 0);
        Due.is("28: never had", x.lose(3), 0);
        Due.is("28: -1", x.lose(-1), RopeLine.UNKNOWN);
        Due.is("28: 4", x.lose(4), RopeLine.UNKNOWN);
        Due.is("28: nothing to put to", x.put(2, 0, 1), -11);
        Due.is("28: nothing to take of another lane", x.cell(2, 0, 1), RopeLine.LOST);
        Due.is("28: is no cast", x.fault(), 1);
        Due.is("28: names no fault", x.lose(2), 0);
        Due.is("28: so it stays", x.fault(), 1);
    }

    private static void put() {
        RopeLine x = new RopeLine();
        Due.is("29: nothing", x.put(0, -1, 1), -11);
        Due.is("29: fault NULL", x.fault(), 1);
        x.sheet(0, 2, 3);
        Due.is("29: first", x.put(0, 0, 7), 1);
        Due.is("29: fault 0", x.fault(), 0);
        Due.is("29: last", x.put(0, 2, -8), 1);
        Due.is("29: first is 7", x.cell(0, 0, 2), 7);
        Due.is("29: last is -8", x.cell(0, 2, 2), -8);
        Due.is("29: -1", x.put(0, -1, 1), -13);
        Due.is("29: fault INDEX", x.fault(), 3);
        Due.is("29: 3", x.put(0, 3, 1), -13);
        Due.is("29: 60", x.put(0, 60, 1), -13);
        Due.is("29: greatest", x.put(0, Integer.MAX_VALUE, 1), -13);
        Due.is("29: least", x.put(0, Integer.MIN_VALUE, 1), -13);
        Due.is("29: sheet 4", x.put(4, -1, 1), RopeLine.UNKNOWN);
        Due.is("29: a refusal's fault", x.fault(), 0);
        Due.is("29: sheet -1", x.put(-1, 0, 1), RopeLine.UNKNOWN);
    }

    private static void cut() {
        int[] told = {127, 128, -128, -129, 256, 32767, 32768, -32769, 65536, Integer.MAX_VALUE, Integer.MIN_VALUE};
        int[] bytes = {127, -128, -128, 127, 0, -1, 0, -1, 0, -1, 0};
        int[] shorts = {127, 128, -128, -129, 256, 32767, -32768, 32767, 0, -1, 0};
        RopeLine x = new RopeLine();
        for (int lane = 0; lane < 3; lane++) x.sheet(lane, lane, 1);
        for (int k = 0; k < told.length; k++) {
            for (int lane = 0; lane < 3; lane++) x.put(lane, 0, told[k]);
            Due.is("29: byte of " + told[k], x.cell(0, 0, 0), bytes[k]);
            Due.is("29: short of " + told[k], x.cell(1, 0, 1), shorts[k]);
            Due.is("29: int of " + told[k], x.cell(2, 0, 2), told[k]);
        }
    }

    private static void lost(String call, RopeLine x, int k, int i, int lane, int fault) {
        x.put(3, 0, 0);
        Due.is("30: " + call, x.cell(k, i, lane), RopeLine.LOST);
        Due.is("30: fault of " + call, x.fault(), fault);
    }

    private static void cell() {
        RopeLine x = new RopeLine();
        x.sheet(0, 1, 2);
        x.put(0, 1, -300);
        Due.is("30: cell", x.cell(0, 1, 1), -300);
        Due.is("30: fault of none", x.fault(), 0);
        lost("a byte, cast before index", x, 0, 9, 0, 2);
        lost("an int", x, 0, 0, 2, 2);
        lost("index 2", x, 0, 2, 1, 3);
        lost("index -1", x, 0, -1, 1, 3);
        lost("greatest index", x, 0, Integer.MAX_VALUE, 1, 3);
        lost("nothing", x, 1, -1, 2, 1);
        lost("lane 3", x, 0, 9, 3, 0);
        lost("lane -1", x, 1, 0, -1, 0);
        lost("sheet 4", x, 4, 0, 0, 0);
        lost("sheet -1", x, -1, 0, 0, 0);
    }

    /** COMER 0 is DONE (waited 2), 1 STANDS (waited 1), 2 went on; SORTS 2, 1, 0. */
    private static RopeLine kinds() {
        RopeLine x = Texts.at("m6;c2;s4v30;s3v12;s2v9");
        x.bar(1, 5);
        x.bar(2, 5);
        x.minute(11, 8);
        x.minute(11, 5);
        x.minute(0, 1);
        Due.is("31: done", x.ofComer(0, 0), 2);
        Due.is("31: stands", x.ofComer(1, 0), 1);
        Due.is("31: went on", x.ofComer(2, 0), 0);
        return x;
    }

    private static void tell() {
        RopeLine x = kinds();
        Due.is("31: went on: its sort", x.tell(2), 0);
        Due.is("34: 1", x.trace(), 1);
        Due.is("31: stands: its sort and 10", x.tell(1), 11);
        Due.is("34: 1, 2, 1", x.trace(), (31 + 2) * 31 + 1);
        RopeLine y = kinds();
        Due.is("31: done: 2 and 20, and 2", y.tell(0), 24);
        Due.is("34: 3, 2, 1, 1", y.trace(), ((3 * 31 + 2) * 31 + 1) * 31 + 1);
        y.leave(1);
        int trace = y.trace();
        Due.is("31: left: its sort", y.tell(1), 1);
        Due.is("34: and 1", y.trace(), 31 * trace + 1);
        Due.is("31: -1", y.tell(-1), RopeLine.UNKNOWN);
        Due.is("31: 3", y.tell(3), RopeLine.UNKNOWN);
        Due.is("34: a refusal leaves nothing", y.trace(), 31 * trace + 1);
        for (int k = 0; k < 8; k++) y.tell(0);
        int wraps = 31 * trace + 1;
        for (int k = 0; k < 8; k++) wraps = (((wraps * 31 + 3) * 31 + 2) * 31 + 1) * 31 + 1;
        Due.is("34: wraps", y.trace(), wraps);
    }

    private static void call() {
        RopeLine x = kinds();
        Due.is("32: done ones have their own", x.call(0), 90);
        Due.is("34: 5", x.trace(), 5);
        Due.is("32: stands: its number", x.call(1), 1);
        Due.is("34: 5, 4", x.trace(), 5 * 31 + 4);
        Due.is("32: went on: its number", x.call(2), 2);
        Due.is("34: 5, 4, 4", x.trace(), (5 * 31 + 4) * 31 + 4);
        Due.is("32: -1", x.call(-1), RopeLine.UNKNOWN);
        Due.is("32: 3", x.call(3), RopeLine.UNKNOWN);
        Due.is("34: a refusal leaves nothing", x.trace(), (5 * 31 + 4) * 31 + 4);
    }

    private static void as() {
        RopeLine x = kinds();
        int[] kindOf = {2, 1, 0};
        for (int c = 0; c < 3; c++) {
            for (int kind = 0; kind < 3; kind++) {
                boolean is = kind <= kindOf[c];
                Due.is("33: as(" + c + ", " + kind + ")", x.as(c, kind), is ? 1 : -12);
                Due.is("33: its fault", x.fault(), is ? 0 : 2);
            }
        }
        Due.is("33: kind -1", x.as(2, -1), RopeLine.OUTSIDE);
        Due.is("33: a refusal's fault", x.fault(), 0);
        Due.is("33: kind 3", x.as(2, 3), RopeLine.OUTSIDE);
        Due.is("33: comer -1", x.as(-1, 3), RopeLine.UNKNOWN);
        Due.is("33: comer 3", x.as(3, 3), RopeLine.UNKNOWN);
        x.leave(1);
        Due.is("33: one who left does not stand there", x.as(1, 1), -12);
        x.minute(0, 11);
        Due.is("33: leaves no trace", x.trace(), 0);
    }

    private static void faultOfTheLatest() {
        RopeLine x = kinds();
        x.as(2, 2);
        Due.is("35: CAST", x.fault(), 2);
        x.about(9);
        x.tell(9);
        x.often(9, 9);
        x.minute(99, 0);
        x.lose(9);
        x.many(9);
        Due.is("35: others name none", x.fault(), 2);
        x.sheet(0, 0, -1);
        Due.is("35: SIZE", x.fault(), 4);
        x.place(9, 0, 0, 0);
        Due.is("35: refused", x.fault(), 0);
        x.put(0, 99, 0);
        Due.is("35: INDEX", x.fault(), 3);
        x.cell(0, 0, 0);
        Due.is("35: came to none", x.fault(), 0);
        x.put(3, 0, 0);
        Due.is("35: NULL", x.fault(), 1);
        x.sheet(3, 0, 1);
        Due.is("35: a new row, none", x.fault(), 0);
        x.put(3, 1, 0);
        x.as(0, 0);
        Due.is("35: taken, none", x.fault(), 0);
        x.put(3, 1, 0);
        Texts.read(x, "m1;c1");
        Due.is("35: a place, none", x.fault(), 0);
    }

    private static void many() {
        RopeLine x = kinds();
        int[] due = {3, 3, 1, 1, 3};
        for (int what = 0; what < 5; what++) Due.is("36: many(" + what + ")", x.many(what), due[what]);
        Due.is("36: -1", x.many(-1), RopeLine.OUTSIDE);
        Due.is("36: 5", x.many(5), RopeLine.OUTSIDE);
        x.leave(1);
        Due.is("36: left", x.many(2), 0);
        Due.is("36: is not done", x.many(3), 1);
        x.minute(0, 11);
        Due.is("36: minutes", x.many(4), 4);
    }
}
