/** Terms 1: a PLACE by a TEXT and the FIRST FAULT; promise 2. */
final class TextSentences {
    private static final String WHOLE = "m5;c2;s4v30;s3v12;s1v7";

    private TextSentences() {
    }

    static void all() {
        items();
        served();
        cost();
        sorts();
        twelfths();
        worth();
        digits();
        firstCode();
        endsTooSoon();
        readAsAllDigits();
        firstDigit();
        noTwelfthsLeft();
        codes();
        sortsAnew();
        lineEmptied();
        minutesFromZero();
        comersForgotten();
        tollAndBoardGone();
        nothingElse();
        placeByCells();
        placeAnswers();
        placeUnknown();
        placeOutside();
        placeCast();
        placeNull();
        placeSize();
        placeIndex();
        placeLast();
    }

    private static void items() {
        Sentence.terms("A PLACE by a TEXT: 2 to 5 items with ; between:");
        Texts.fails("", 0);
        Texts.fails("m5", 2);
        Texts.fails("m5;", 3);
        Texts.reads("m5;c2", 0);
        Texts.fails("m5;c2;", 6);
        Texts.reads("m5;c2;s1v1;s1v1;s1v1", 3);
        Texts.fails("m5;c2;s1v1;s1v1;s1v1;", 20);
        Texts.fails("m5;c2;s1v1;s1v1;s1v1;s1v1", 20);
        Texts.fails("m5c2", 2);
        Texts.fails("m5;;c2", 3);
        Texts.fails("m5;c2s1v1", 5);
        Texts.fails("m5;c2;s1;v1", 8);
        Texts.fails("m5;c2;s1v1s1v1", 10);
        Texts.fails(";m5;c2", 0);
        Texts.fails(" m5;c2", 0);
        Texts.fails("m5;c2 ", 5);
    }

    private static void served() {
        Sentence.terms("first m and a number (SERVED: so many twelfths, 1 .. 11)");
        for (int m = 0; m < 14; m++) {
            RopeLine x = new RopeLine();
            boolean told = m > 0 && m < 12;
            Due.is("m" + m, Texts.read(x, "m" + m + ";c2"), told ? 0 : -101);
            Due.is("SERVED by m" + m, x.about(0), told ? m : RopeLine.STATE);
        }
        Texts.fails("m999;c2", 1);
        Texts.fails("c2;m5", 0);
        Texts.fails("M5;c2", 0);
    }

    private static void cost() {
        Sentence.terms("then c and a number (COST of a minute, 1 .. 9)");
        for (int c = 0; c < 12; c++) {
            RopeLine x = new RopeLine();
            boolean told = c > 0 && c < 10;
            Due.is("c" + c, Texts.read(x, "m5;c" + c), told ? 0 : -104);
            Due.is("COST by c" + c, x.about(1), told ? c : RopeLine.STATE);
        }
        Texts.fails("m5;c999", 4);
        Texts.fails("m5;s4v30;c2", 3);
        Texts.fails("m5;m5", 3);
    }

    private static void sorts() {
        Sentence.terms("then none to three SORTS, numbered from 0 on: s,");
        Due.is("none, ofSort(0, 0)", Texts.at("m5;c2").ofSort(0, 0), RopeLine.UNKNOWN);
        RopeLine x = Texts.at(WHOLE);
        int[][] due = {{4, 30}, {3, 12}, {1, 7}};
        for (int s = 0; s < 3; s++) {
            Due.is("twelfths of SORT " + s, x.ofSort(s, 0), due[s][0]);
            Due.is("WORTH of SORT " + s, x.ofSort(s, 1), due[s][1]);
        }
        Due.is("SORT 3", x.ofSort(3, 0), RopeLine.UNKNOWN);
        Texts.reads("m5;c2;s4v30", 1);
        Texts.reads("m5;c2;s4v30;s3v12", 2);
        Texts.fails(WHOLE + ";s1v1", WHOLE.length());
    }

    private static void twelfths() {
        Sentence.terms("a number (comes so many twelfths, 1 .. 11; all SORTS together 11 at most)");
        for (int s = 0; s < 14; s++) Texts.reads("m5;c2;s" + s + "v1", s > 0 && s < 12 ? 1 : -107);
        Texts.reads("m5;c2;s5v1;s6v1", 2);
        Texts.fails("m5;c2;s6v1;s6v1", 12);
        Texts.reads("m5;c2;s10v1;s1v1", 2);
        Texts.fails("m5;c2;s10v1;s2v1", 13);
        Texts.reads("m5;c2;s4v1;s4v1;s3v1", 3);
        Texts.fails("m5;c2;s4v1;s4v1;s4v1", 17);
        Texts.reads("m5;c2;s1v1;s9v1;s1v1", 3);
        Texts.fails("m5;c2;s1v1;s1v1;s10v1", 17);
        Texts.fails("m5;c2;s1v1;s0v1", 12);
    }

    private static void worth() {
        Sentence.terms("v, a number (WORTH, 0 .. 999).");
        for (int v : new int[] {0, 1, 9, 10, 99, 100, 998, 999}) {
            RopeLine x = new RopeLine();
            Due.is("v" + v, Texts.read(x, "m5;c2;s4v" + v), 1);
            Due.is("WORTH by v" + v, x.ofSort(0, 1), v);
        }
        Texts.fails("m5;c2;s4v1000", 12);
        Texts.fails("m5;c2;s4v-1", 9);
        Texts.fails("m5;c2;s430", 7);
    }

    private static void digits() {
        Sentence.terms("Numbers are of one to three digits.");
        Texts.fails("m;c2", 1);
        Texts.fails("m5;c", 4);
        Texts.fails("m5;c2;sv30", 7);
        Texts.fails("m5;c2;s4v", 9);
        Texts.fails("m5;c2;s4v;s1v1", 9);
        String[] one = {"5", "2", "4", "0"};
        for (int k = 0; k < 3; k++) {
            for (int item = 0; item < 4; item++) one[item] = k == 0 ? one[item] : "0" + one[item];
            String text = "m" + one[0] + ";c" + one[1] + ";s" + one[2] + "v" + one[3];
            RopeLine x = new RopeLine();
            Due.is(text, Texts.read(x, text), 1);
            Due.is("SERVED", x.about(0), 5);
            Due.is("COST", x.about(1), 2);
            Due.is("twelfths", x.ofSort(0, 0), 4);
            Due.is("WORTH", x.ofSort(0, 1), 0);
        }
        Texts.fails("m0015;c2", 4);
        Texts.fails("m5;c0092", 7);
        Texts.fails("m5;c2;s0114v1", 10);
        Texts.fails("m5;c2;s4v0001", 12);
    }

    private static void firstCode() {
        Sentence.terms("FIRST FAULT: the place (from 0 on) of the first code with which no TEXT goes on;");
        for (int i = 0; i < WHOLE.length(); i++) {
            Texts.fails(WHOLE.substring(0, i) + "x" + WHOLE.substring(i + 1), i);
            Texts.fails(WHOLE.substring(0, i) + "xx", i);
        }
        Texts.fails(WHOLE + "x", WHOLE.length());
        Texts.fails("mm", 1);
        Texts.fails("m5;c2x;x", 5);
    }

    private static void endsTooSoon() {
        Sentence.terms("how many codes there are, if it just ends too soon;");
        String texts = " m5;c2 m5;c2;s4v3 m5;c2;s4v30 m5;c2;s4v30;s3v1 m5;c2;s4v30;s3v12 " + WHOLE + " ";
        for (int n = 0; n <= WHOLE.length(); n++) {
            String start = WHOLE.substring(0, n);
            if (texts.contains(" " + start + " ")) Texts.reads(start, n < 6 ? 0 : n < 12 ? 1 : n < 18 ? 2 : 3);
            else Texts.fails(start, n);
        }
    }

    private static void readAsAllDigits() {
        Sentence.terms("a number is read as all digits that stand there, three at most;");
        Due.is("11, not 1 and 1", Texts.at("m11;c2").about(0), 11);
        Due.is("011", Texts.at("m011;c2").about(0), 11);
        Due.is("999, not 99 and 9", Texts.at("m5;c2;s4v999").ofSort(0, 1), 999);
        Texts.fails("m0011;c2", 4);
        Texts.fails("m0011", 4);
        Texts.fails("m9999;c2", 1);
        Texts.fails("m5;c0091", 7);
        Texts.fails("m5;c2;s0011v1", 10);
        Texts.fails("m5;c2;s4v9999", 12);
        Texts.fails("m5;c2;s4v9995;s1v1", 12);
    }

    private static void firstDigit() {
        Sentence.terms("of one that is not as told its first digit");
        Texts.fails("m0", 1);
        Texts.fails("m00", 1);
        Texts.fails("m000", 1);
        Texts.fails("m0000", 1);
        Texts.fails("m0x", 1);
        Texts.fails("m12", 1);
        Texts.fails("m120;c2", 1);
        Texts.fails("m012;c2", 1);
        Texts.fails("m5;c10", 4);
        Texts.fails("m5;c010;s", 4);
        Texts.fails("m5;c2;s12v1", 7);
        Texts.fails("m5;c2;s000v1", 7);
        Texts.fails("m5;c2;s3v1;s10", 12);
        Texts.fails("m5;c2;s3v1;s009v1", 12);
    }

    private static void noTwelfthsLeft() {
        Sentence.terms("(where no twelfths are left, the number of a SORT that comes all the same, too).");
        Texts.reads("m5;c2;s11v1", 1);
        Texts.fails("m5;c2;s11v1;", 12);
        Texts.fails("m5;c2;s11v1;x", 12);
        Texts.fails("m5;c2;s11v1;s", 13);
        Texts.fails("m5;c2;s11v1;sv1", 13);
        Texts.fails("m5;c2;s11v1;s0v1", 13);
        Texts.fails("m5;c2;s11v1;s1v1", 13);
        Texts.fails("m5;c2;s11v1;s001v1", 13);
        Texts.fails("m5;c2;s6v1;s5v1;s1v1", 17);
    }

    private static void codes() {
        Sentence.terms("(Codes: m 109, c 99, s 115, v 118, ; 59, digits 48 .. 57.)");
        goesOnWith("m5;c2;s4v3", 0, 109);
        goesOnWith("m5;c2;s4v3", 2, 59);
        goesOnWith("m5;c2;s4v3", 3, 99);
        goesOnWith("m5;c2;s4v3", 5, 59);
        goesOnWith("m5;c2;s4v3", 6, 115);
        goesOnWith("m5;c2;s4v3", 8, 118);
        for (int code = -128; code < 128; code++) {
            RopeLine x = new RopeLine();
            int due = code >= 48 && code <= 57 ? 1 : -109;
            Due.is("digit " + code, readCodes(x, 0, "m5;c2;s4v3", 9, code), due);
            if (due == 1) Due.is("its WORTH", x.ofSort(0, 1), code - 48);
        }
        Due.is("a byte is cut to m", readCodes(new RopeLine(), 0, "m5;c2", 0, 109 + 256), 0);
        Due.is("a short is none", readCodes(new RopeLine(), 1, "m5;c2", 0, 109 + 256), -100);
        Due.is("a short is cut to m", readCodes(new RopeLine(), 1, "m5;c2", 0, 109 + 65536), 0);
        Due.is("an int is none", readCodes(new RopeLine(), 2, "m5;c2", 0, 109 + 65536), -100);
        Due.is("nor a digit", readCodes(new RopeLine(), 2, "m5;c2;s4v3", 9, 51 + 65536), -109);
    }

    /** No other byte at this place of the text will do; a digit there makes the number ahead longer, so it is left out. */
    private static void goesOnWith(String text, int place, int only) {
        for (int code = -128; code < 128; code++) {
            if (code >= 48 && code <= 57) continue;
            Due.is("code " + code + " at " + place, readCodes(new RopeLine(), 0, text, place, code),
                code == only ? 1 : -100 - place);
        }
    }

    private static int readCodes(RopeLine x, int lane, String text, int place, int code) {
        Texts.fill(x, 0, lane, text);
        x.put(0, place, code);
        return x.place(0, lane, 0, text.length());
    }

    // ---- what a TEXT that is taken does

    private static RopeLine used() {
        RopeLine x = Texts.open("m6;c2;s4v30;s3v12");
        x.toll(3);
        x.board(4, 5);
        x.minute(11, 0);
        x.minute(11, 4);
        x.minute(0, 11);
        return x;
    }

    private static void sortsAnew() {
        Sentence.terms("A TEXT that is taken makes all SORTS anew, with BARS 0,");
        RopeLine x = used();
        Due.is("THE BEST of the first", x.best(0), 3);
        String was = Seen.of(x);
        Texts.fill(x, 0, 0, "m5;c1;s2v8;s1v1234");
        Due.is("a TEXT that is not taken", x.place(0, 0, 0, 18), -117);
        Texts.fill(x, 0, 0, "m6;c2;s4v30;s3v12");
        Due.same("makes nothing anew", Seen.of(x), was);
        Due.is("one that is", Texts.read(x, "m5;c1;s2v8"), 1);
        Due.is("SORTS", x.many(0), 1);
        Due.is("twelfths", x.ofSort(0, 0), 2);
        Due.is("WORTH", x.ofSort(0, 1), 8);
        Due.is("BAR", x.ofSort(0, 2), 0);
        Due.is("SORT 1 is no more", x.ofSort(1, 0), RopeLine.UNKNOWN);
        Due.is("twelfths together", x.about(2), 2);
        Texts.read(x, "m1;c9;s11v1");
        Due.is("THE BEST is another", x.best(0), 0);
        Due.is("nobody joins", x.often(0, 1), 1);
        x.bar(0, 4);
        Texts.read(x, "m1;c9;s11v1");
        Due.is("BAR of the same TEXT", x.ofSort(0, 2), 0);
    }

    private static void lineEmptied() {
        Sentence.terms("empties THE LINE (2)");
        RopeLine x = used();
        Due.is("one stands there", x.line(-1), 1);
        Texts.read(x, "m6;c2;s4v30");
        Due.is("none does", x.line(-1), 0);
        Due.is("the first", x.line(0), RopeLine.NONE);
        Due.is("who stand there", x.many(2), 0);
        Due.is("nobody is SERVED", x.minute(0, 11), 0);
    }

    private static void minutesFromZero() {
        Sentence.terms("whose minutes begin at 0 again,");
        RopeLine x = used();
        Due.is("minutes", x.many(4), 3);
        Texts.read(x, "m6;c2;s4v30");
        Due.is("minutes", x.many(4), 0);
        x.minute(11, 0);
        Due.is("in which the first one came", x.ofComer(0, 3), 0);
        Due.is("minutes", x.many(4), 1);
    }

    private static void comersForgotten() {
        Sentence.terms("and forgets all COMERS;");
        RopeLine x = States.forty();
        Texts.read(x, "m6;c2;s4v30");
        Due.is("COMERS", x.many(1), 0);
        Due.is("DONE", x.many(3), 0);
        Due.is("COMER 0", x.ofComer(0, 0), RopeLine.UNKNOWN);
        Due.is("COMER 39", x.tell(39), RopeLine.UNKNOWN);
        Due.is("ENVY", x.envy(), 0);
        x.bar(0, 1);
        for (int k = 0; k < 40; k++) Due.is("one comes, as before none had", x.minute(11, 0), k == 0 ? 2 : 1);
        Due.is("the first of them", x.line(0), 0);
        Due.is("what it HAS WAITED", x.ofComer(0, 2), 39);
        Due.is("there were 40 again", x.minute(11, 0), RopeLine.FULL);
    }

    private static void tollAndBoardGone() {
        Sentence.terms("the TOLL is 0, no BOARD.");
        RopeLine x = used();
        Texts.read(x, "m6;c2;s4v30");
        Due.is("TOLL", x.about(3), 0);
        Due.is("r", x.about(4), 0);
        Due.is("lie", x.about(5), 0);
        Due.is("there was no BOARD", x.board(0, 0), 0);
        Due.is("the TOLL was", x.toll(1), 0);
    }

    private static void nothingElse() {
        Sentence.of("Not promised", "Nothing is promised beyond the answers and state changes described above");
        RopeLine x = used();
        x.sheet(3, 2, 60);
        x.put(3, 59, 7);
        x.order(2);
        x.tell(0);
        int trace = x.trace();
        Due.is("a TEXT that is taken", Texts.read(x, "m6;c2;s4v30"), 1);
        Due.is("leaves ORDER as it is", x.order(2), 2);
        Due.is("and TRACE", x.trace(), trace);
        Due.is("and the SHEET it was read from", x.cell(0, 0, 0), 'm');
        Due.is("and the others", x.cell(3, 59, 2), 7);
    }

    // ---- promise 2

    private static void placeByCells() {
        Sentence.promise(2, "A PLACE by a TEXT of n cells of a SHEET from i on, taken as a row of a LANE:");
        for (int k = 0; k < 4; k++) {
            for (int lane = 0; lane < 3; lane++) {
                RopeLine x = new RopeLine();
                String text = "m7;c3;s2v50";
                int from = 60 - text.length();
                x.sheet(k, lane, 60);
                for (int i = 0; i < text.length(); i++) x.put(k, from + i, text.charAt(i));
                Due.is("the last cells of 60", x.place(k, lane, from, text.length()), 1);
                Due.is("SERVED", x.about(0), 7);
                Due.is("WORTH", x.ofSort(0, 1), 50);
                Due.is("fewer cells", x.place(k, lane, from, 5), 0);
                Due.is("from the next one on", x.place(k, lane, from + 1, 5), -100);
                Due.is("from the one ahead on", x.place(k, lane, from - 1, 5), -100);
                Due.is("from the first on, where zeros stand", x.place(k, lane, 0, 60), -100);
            }
        }
    }

    private static void placeAnswers() {
        Sentence.promise(2, "how many SORTS; -100 less the FIRST FAULT.");
        Texts.reads("m5;c2", 0);
        Texts.reads("m5;c2;s4v30", 1);
        Texts.reads("m5;c2;s4v30;s3v12", 2);
        Texts.reads(WHOLE, 3);
        Texts.reads("x" + WHOLE, -100);
        Texts.reads("m005;c002;s004v030;s003v012;s001v007x", -136);
        // A TEXT of three digits each: 36 codes, the longest there is.
        Texts.reads("m005;c002;s004v030;s003v012;s001v007", 3);
    }

    private static void placeUnknown() {
        Sentence.promise(2, "UNKNOWN");
        RopeLine x = States.kinds();
        Due.is("SHEET -1", x.place(-1, 0, 0, 0), RopeLine.UNKNOWN);
        Due.is("SHEET 4", x.place(4, 0, 0, 0), RopeLine.UNKNOWN);
        Due.is("the least", x.place(Integer.MIN_VALUE, 0, 0, 0), RopeLine.UNKNOWN);
        Due.is("the greatest", x.place(Integer.MAX_VALUE, 0, 0, 0), RopeLine.UNKNOWN);
        Due.is("SHEET 3 has nothing, but is there", x.place(3, 0, 0, 0), -11);
    }

    private static void placeOutside() {
        Sentence.promise(2, "OUTSIDE: lane");
        RopeLine x = States.kinds();
        Due.is("LANE -1", x.place(0, -1, 0, 0), RopeLine.OUTSIDE);
        Due.is("LANE 3", x.place(0, 3, 0, 0), RopeLine.OUTSIDE);
        Due.is("LANE 3 of nothing", x.place(3, 3, 0, 0), RopeLine.OUTSIDE);
        Due.is("LANE 2 is another one", x.place(0, 2, 0, 0), -12);
    }

    private static void placeCast() {
        Sentence.promise(2, "FAULTS CAST (nothing is no CAST)");
        RopeLine x = States.kinds();
        Due.is("bytes as shorts", x.place(0, 1, 0, 5), -12);
        Due.is("shorts as bytes", x.place(1, 0, 0, 5), -12);
        Due.is("ints as bytes", x.place(2, 0, 0, 0), -12);
        for (int lane = 0; lane < 3; lane++) Due.is("nothing as of " + lane, x.place(3, lane, 0, 0), -11);
        x.lose(1);
        Due.is("lost, as of another LANE", x.place(1, 0, 0, 5), -11);
    }

    private static void placeNull() {
        Sentence.promise(2, "NULL");
        RopeLine x = new RopeLine();
        for (int k = 0; k < 4; k++) Due.is("SHEET " + k, x.place(k, 0, 0, 5), -11);
        Due.is("none of it", x.place(0, 0, 0, 0), -11);
        x.sheet(0, 0, 0);
        Due.is("a row of none", x.place(0, 0, 0, 0), -100);
    }

    private static void placeSize() {
        Sentence.promise(2, "SIZE: n is below 0");
        RopeLine x = States.kinds();
        Due.is("-1", x.place(0, 0, 0, -1), -14);
        Due.is("-1 from the end on", x.place(1, 1, 5, -1), -14);
        Due.is("the least", x.place(0, 0, 0, Integer.MIN_VALUE), -14);
        Due.is("the least from beyond the end on", x.place(0, 0, Integer.MIN_VALUE, Integer.MIN_VALUE), -14);
        Due.is("0", x.place(0, 0, 0, 0), -100);
    }

    private static void placeIndex() {
        Sentence.promise(2, "INDEX: not all cells are there");
        RopeLine x = States.kinds();
        Due.is("all", x.place(1, 1, 0, 5), 0);
        Due.is("one more", x.place(1, 1, 0, 6), -13);
        Due.is("all from the next on and one more", x.place(1, 1, 1, 5), -13);
        Due.is("the last one", x.place(1, 1, 4, 1), -100);
        Due.is("one behind it", x.place(1, 1, 5, 1), -13);
        Due.is("one ahead of the first", x.place(1, 1, -1, 1), -13);
        Due.is("the greatest n", x.place(1, 1, 1, Integer.MAX_VALUE), -13);
        Due.is("the greatest i", x.place(1, 1, Integer.MAX_VALUE, 1), -13);
        Due.is("both the greatest", x.place(1, 1, Integer.MAX_VALUE, Integer.MAX_VALUE), -13);
        Due.is("the least i, the greatest n", x.place(1, 1, Integer.MIN_VALUE, Integer.MAX_VALUE), -13);
        Due.is("61 of 60", sixty().place(0, 0, 0, 61), -13);
        Due.is("60 of 60", sixty().place(0, 0, 0, 60), -100);
    }

    private static RopeLine sixty() {
        RopeLine x = new RopeLine();
        x.sheet(0, 0, 60);
        return x;
    }

    private static void placeLast() {
        Sentence.promise(2, "-100 less it");
        RopeLine x = States.kinds();
        Texts.fill(x, 0, 0, "m12;c2");
        Due.is("CAST ahead of the FIRST FAULT", x.place(0, 1, 0, 6), -12);
        Due.is("INDEX ahead of it", x.place(0, 0, 0, 7), -13);
        Due.is("the FIRST FAULT", x.place(0, 0, 0, 6), -101);
        Due.is("is none of the machine's", x.fault(), 0);
    }
}
