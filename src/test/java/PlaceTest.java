/** Promises 1 to 8: a new object, a place by a text, and what is set in it. */
public final class PlaceTest {
    public static void main(String[] args) {
        newObject();
        takenTexts();
        firstFaults();
        placeRefusals();
        placeLanesAndParts();
        placeMakesAllAnew();
        about();
        ofSort();
        bar();
        toll();
        board();
        hisBars();
        bars();
        Due.end();
    }

    private static void newObject() {
        RopeLine x = new RopeLine();
        for (int what = 0; what < 6; what++) Due.is("1: about(" + what + ")", x.about(what), RopeLine.STATE);
        for (int what = 0; what < 5; what++) Due.is("1: many(" + what + ")", x.many(what), 0);
        for (int k = 0; k < 4; k++) Due.is("1: lose(" + k + ")", x.lose(k), 0);
        Due.is("1: trace()", x.trace(), 0);
        Due.is("1: fault()", x.fault(), 0);
        Due.is("1: order(0)", x.order(0), 0);
    }

    private static void reads(String text, int due) {
        Due.is("2: place by " + text, Texts.read(new RopeLine(), text), due);
    }

    private static void takenTexts() {
        reads("m5;c2", 0);
        reads("m11;c9", 0);
        reads("m1;c1;s11v999", 1);
        reads("m1;c1;s1v0;s10v1", 2);
        reads("m1;c1;s1v0;s1v1;s9v2", 3);
        reads("m011;c009;s001v000;s009v07", 2);
    }

    private static void firstFaults() {
        reads("", -100);
        reads("c", -100);
        reads(";", -100);
        reads("m", -101);
        reads("m;c1", -101);
        reads("m0;c2", -101);
        reads("m000", -101);
        reads("m12;c2", -101);
        reads("m120", -101);
        reads("m0011;c2", -104);
        reads("m9999", -101);
        reads("mm", -101);
        reads("m5", -102);
        reads("m5c1", -102);
        reads("m5;", -103);
        reads("m5;s1", -103);
        reads("m5;c", -104);
        reads("m5;c0", -104);
        reads("m5;c10", -104);
        reads("m5;c0001", -104);
        reads("m5;c0091", -107);
        reads("m5;c9x", -105);
        reads("m5;c9;", -106);
        reads("m5;c9;c1", -106);
        reads("m5;c9;s", -107);
        reads("m5;c9;sv", -107);
        reads("m5;c9;s0v1", -107);
        reads("m5;c9;s12v1", -107);
        reads("m5;c9;s1", -108);
        reads("m5;c9;s1;", -108);
        reads("m5;c9;s1v", -109);
        reads("m5;c9;s1v;", -109);
        reads("m5;c9;s1v1000", -112);
        reads("m5;c9;s1v1s", -110);
        reads("m5;c9;s6v1;s6v1", -112);
        reads("m5;c9;s6v1;s5v1;", -116);
        reads("m5;c9;s6v1;s5v1;x", -116);
        reads("m5;c9;s6v1;s5v1;s1v1", -117);
        reads("m5;c9;s6v1;s5v1;s", -117);
        reads("m5;c9;s11v1;s1v1", -113);
        reads("m5;c9;s1v1;s1v1;s1v1;", -120);
        reads("m5;c9;s1v1;s1v1;s1v1;s1v1", -120);
        reads("m5;c9;s1v1;s1v1;s10v1", -117);
        reads(" m5;c9", -100);
        reads("m/;c9", -101);
        reads("m:;c9", -101);
    }

    private static void placeRefusals() {
        RopeLine x = new RopeLine();
        Due.is("2: no sheet -1", x.place(-1, 3, 0, -1), RopeLine.UNKNOWN);
        Due.is("2: no sheet 4", x.place(4, 0, 0, 0), RopeLine.UNKNOWN);
        Due.is("2: lane -1", x.place(0, -1, 0, -1), RopeLine.OUTSIDE);
        Due.is("2: lane 3", x.place(0, 3, 0, 0), RopeLine.OUTSIDE);
        Due.is("2: fault of a refusal", x.fault(), 0);
        Due.is("2: nothing, of any lane", x.place(0, 2, 99, -1), -11);
        Due.is("2: fault NULL", x.fault(), 1);
        x.sheet(0, 1, 5);
        Due.is("2: cast before size", x.place(0, 0, 9, -1), -12);
        Due.is("2: fault CAST", x.fault(), 2);
        Due.is("2: size before index", x.place(0, 1, 9, -1), -14);
        Due.is("2: fault SIZE", x.fault(), 4);
        Due.is("2: one too many", x.place(0, 1, 0, 6), -13);
        Due.is("2: fault INDEX", x.fault(), 3);
        Due.is("2: from -1", x.place(0, 1, -1, 2), -13);
        Due.is("2: from -1 none", x.place(0, 1, -1, 0), -13);
        Due.is("2: from 6 none", x.place(0, 1, 6, 0), -13);
        Due.is("2: from 5 none", x.place(0, 1, 5, 0), -100);
        Due.is("2: a text's fault is none of the machine's", x.fault(), 0);
        Due.is("2: from 5 one", x.place(0, 1, 5, 1), -13);
        Due.is("2: greatest n", x.place(0, 1, 1, Integer.MAX_VALUE), -13);
        Due.is("2: greatest i", x.place(0, 1, Integer.MAX_VALUE, 1), -13);
        Due.is("2: greatest both", x.place(0, 1, Integer.MAX_VALUE, Integer.MAX_VALUE), -13);
        Due.is("2: least n", x.place(0, 1, 0, Integer.MIN_VALUE), -14);
        Due.is("2: least i", x.place(0, 1, Integer.MIN_VALUE, 1), -13);
        x.sheet(1, 0, 0);
        Due.is("2: no cells", x.place(1, 0, 0, 0), -100);
        Due.is("2: no place by now", x.about(0), RopeLine.STATE);
    }

    private static void placeLanesAndParts() {
        String text = "m7;c3;s2v50";
        for (int lane = 0; lane < 3; lane++) {
            RopeLine x = new RopeLine();
            x.sheet(3, lane, 60);
            int from = 60 - text.length();
            for (int i = 0; i < text.length(); i++) x.put(3, from + i, text.charAt(i));
            Due.is("2: at the end, lane " + lane, x.place(3, lane, from, text.length()), 1);
            Due.is("2: m, lane " + lane, x.about(0), 7);
            Due.is("2: v, lane " + lane, x.ofSort(0, 1), 50);
            Due.is("2: a part of it", x.place(3, lane, from, 5), 0);
            Due.is("2: another part of it", x.place(3, lane, from + 1, 5), -100);
        }
        RopeLine x = new RopeLine();
        x.sheet(0, 2, 5);
        int[] codes = {109 + 256, 53, 59, 99, 50};
        for (int i = 0; i < 5; i++) x.put(0, i, codes[i]);
        Due.is("2: an int is not cut", x.place(0, 2, 0, 5), -100);
        x.sheet(0, 0, 5);
        for (int i = 0; i < 5; i++) x.put(0, i, codes[i]);
        Due.is("2: a byte is", x.place(0, 0, 0, 5), 0);
    }

    private static void placeMakesAllAnew() {
        RopeLine x = Texts.at("m6;c2;s4v30;s3v12");
        x.bars(2);
        x.toll(3);
        x.board(4, 5);
        x.order(2);
        x.minute(11, 0);
        x.minute(11, 4);
        x.minute(0, 11);
        x.tell(0);
        int trace = x.trace();
        Due.is("2: best of the first", x.best(0), 3);
        Due.is("2: a wrong text", Texts.read(x, "m6;c2;s4v30;s3v1234"), -118);
        Due.is("2: changes no bars", x.ofSort(1, 2), 5);
        Due.is("2: no comers", x.many(1), 2);
        Due.is("2: no minutes", x.many(4), 3);
        Due.is("2: no toll", x.about(3), 3);
        Due.is("2: no worth", x.ofSort(1, 1), 12);
        Due.is("2: a right one", Texts.read(x, "m5;c1;s2v8"), 1);
        Due.is("2: sorts", x.many(0), 1);
        Due.is("2: comers", x.many(1), 0);
        Due.is("2: standing", x.many(2), 0);
        Due.is("2: done", x.many(3), 0);
        Due.is("2: minutes", x.many(4), 0);
        Due.is("2: bar", x.ofSort(0, 2), 0);
        Due.is("2: toll", x.about(3), 0);
        Due.is("2: r", x.about(4), 0);
        Due.is("2: lie", x.about(5), 0);
        Due.is("2: sort 1 is no more", x.ofSort(1, 0), RopeLine.UNKNOWN);
        Due.is("2: comer 0 is no more", x.ofComer(0, 0), RopeLine.UNKNOWN);
        Due.is("2: trace stays", x.trace(), trace);
        Due.is("2: order stays", x.order(2), 2);
        x.bar(0, 1);
        Due.is("2: numbers begin at 0 again", x.minute(0, 1), 2);
        Due.is("2: first comer", x.line(0), 0);
        Due.is("2: minutes begin at 0 again", x.ofComer(0, 3), 0);
        Texts.read(x, "m1;c9;s11v1");
        Due.is("2: best is found anew", x.best(0), 0);
    }

    private static void about() {
        RopeLine x = Texts.at("m11;c9;s1v0;s9v99;s1v7");
        Due.is("3: m", x.about(0), 11);
        Due.is("3: c", x.about(1), 9);
        Due.is("3: together", x.about(2), 11);
        Due.is("3: toll", x.about(3), 0);
        Due.is("3: r", x.about(4), 0);
        Due.is("3: lie", x.about(5), 0);
        x.toll(999);
        x.board(20, -20);
        Due.is("3: toll 999", x.about(3), 999);
        Due.is("3: r 20", x.about(4), 20);
        Due.is("3: lie -20", x.about(5), -20);
        Due.is("3: -1", x.about(-1), RopeLine.OUTSIDE);
        Due.is("3: 6", x.about(6), RopeLine.OUTSIDE);
        Due.is("3: 6 of no place", new RopeLine().about(6), RopeLine.OUTSIDE);
        Due.is("3: 0 of no place", new RopeLine().about(0), RopeLine.STATE);
    }

    private static void ofSort() {
        RopeLine x = Texts.at("m6;c2;s4v30;s3v12");
        Due.is("4: twelfths", x.ofSort(0, 0), 4);
        Due.is("4: worth", x.ofSort(0, 1), 30);
        Due.is("4: bar", x.ofSort(0, 2), 0);
        Due.is("4: his bar", x.ofSort(0, 3), 5);
        Due.is("4: twelfths of 1", x.ofSort(1, 0), 3);
        Due.is("4: worth of 1", x.ofSort(1, 1), 12);
        Due.is("4: his bar of 1", x.ofSort(1, 3), 3);
        Due.is("4: sort 2", x.ofSort(2, 9), RopeLine.UNKNOWN);
        Due.is("4: sort -1", x.ofSort(-1, 0), RopeLine.UNKNOWN);
        Due.is("4: what 4", x.ofSort(0, 4), RopeLine.OUTSIDE);
        Due.is("4: what -1", x.ofSort(1, -1), RopeLine.OUTSIDE);
        Due.is("4: no place", new RopeLine().ofSort(0, 9), RopeLine.UNKNOWN);
    }

    private static void bar() {
        RopeLine x = Texts.at("m6;c2;s4v30;s3v12");
        Due.is("5: to 5", x.bar(1, 5), 0);
        Due.is("5: to 2", x.bar(1, 2), 5);
        Due.is("5: to 0", x.bar(1, 0), 2);
        Due.is("5: the other", x.bar(0, 4), 0);
        Due.is("5: 6", x.bar(0, 6), RopeLine.OUTSIDE);
        Due.is("5: -1", x.bar(0, -1), RopeLine.OUTSIDE);
        Due.is("5: sort 2", x.bar(2, 9), RopeLine.UNKNOWN);
        Due.is("5: sort -1", x.bar(-1, 0), RopeLine.UNKNOWN);
        Due.is("5: still 4", x.ofSort(0, 2), 4);
        Due.is("5: no place", new RopeLine().bar(0, 0), RopeLine.UNKNOWN);
    }

    private static void toll() {
        RopeLine x = Texts.at("m5;c3;s6v40");
        Due.is("6: 999", x.toll(999), 0);
        Due.is("6: 0", x.toll(0), 999);
        Due.is("6: -1", x.toll(-1), RopeLine.OUTSIDE);
        Due.is("6: 1000", x.toll(1000), RopeLine.OUTSIDE);
        Due.is("6: still 0", x.about(3), 0);
        Due.is("6: no place", new RopeLine().toll(0), RopeLine.STATE);
        Due.is("6: 1000, no place", new RopeLine().toll(1000), RopeLine.OUTSIDE);
    }

    private static void board() {
        RopeLine x = Texts.at("m5;c3;s6v40");
        Due.is("7: none as it was", x.board(0, 20), 0);
        Due.is("7: 1, 0", x.board(1, 0), 1);
        Due.is("7: again", x.board(1, 0), 0);
        Due.is("7: another lie", x.board(1, 1), 1);
        Due.is("7: other steps", x.board(2, 1), 1);
        Due.is("7: 20, -20", x.board(20, -20), 1);
        Due.is("7: 20, 20", x.board(20, 20), 1);
        Due.is("7: 21", x.board(21, 0), RopeLine.OUTSIDE);
        Due.is("7: -1", x.board(-1, 0), RopeLine.OUTSIDE);
        Due.is("7: lie 21", x.board(1, 21), RopeLine.OUTSIDE);
        Due.is("7: lie -21", x.board(1, -21), RopeLine.OUTSIDE);
        Due.is("7: still so", x.board(20, 20), 0);
        Due.is("7: to none", x.board(0, 20), 1);
        Due.is("7: its lie is 0", x.about(5), 0);
        Due.is("7: none, another lie", x.board(0, 3), 0);
        Due.is("7: no place", new RopeLine().board(0, 0), RopeLine.STATE);
        Due.is("7: outside, no place", new RopeLine().board(0, 21), RopeLine.OUTSIDE);
    }

    // 12 by 5 is 2.4 minutes a place, at 3 a minute 7.2: a WORTH of 36 is just no less than five of them.
    private static void hisBars() {
        RopeLine x = Texts.at("m5;c3;s6v36");
        Due.is("4: just 5", x.ofSort(0, 3), 5);
        int[][] tolls = {
            {1, 4}, {7, 4}, {8, 3}, {14, 3}, {15, 2}, {21, 2}, {22, 1}, {28, 1}, {29, 0}, {36, 0}, {37, 0}};
        for (int[] toll : tolls) {
            x.toll(toll[0]);
            Due.is("4: his bar by toll " + toll[0], x.ofSort(0, 3), toll[1]);
        }
        x.toll(0);
        // told minutes by steps of 4: 4, 8, 8, 12, 12: costs 12, 24, 24, 36, 36
        x.board(4, 0);
        Due.is("4: his bar by steps of 4", x.ofSort(0, 3), 5);
        x.toll(1);
        Due.is("4: and a toll of 1", x.ofSort(0, 3), 3);
        x.toll(13);
        Due.is("4: and a toll of 13", x.ofSort(0, 3), 1);
        x.toll(25);
        Due.is("4: and a toll of 25", x.ofSort(0, 3), 0);
        x.board(4, -12);
        Due.is("4: nothing told to wait", x.ofSort(0, 3), 5);
        x.toll(36);
        Due.is("4: worth just the toll", x.ofSort(0, 3), 5);
        x.toll(37);
        Due.is("4: worth less than the toll", x.ofSort(0, 3), 0);
    }

    private static void bars() {
        RopeLine x = Texts.at("m6;c2;s4v30;s3v12");
        Due.is("8: his bars", x.bars(0), 2);
        Due.is("8: first", x.ofSort(0, 2), 5);
        Due.is("8: second", x.ofSort(1, 2), 3);
        Due.is("8: as they were", x.bars(0), 0);
        Due.is("8: fives", x.bars(2), 1);
        Due.is("8: second is 5", x.ofSort(1, 2), 5);
        x.toll(4);
        x.board(2, 1);
        x.bars(0);
        Due.is("8: by toll and board, first", x.ofSort(0, 2), x.ofSort(0, 3));
        Due.is("8: by toll and board, second", x.ofSort(1, 2), x.ofSort(1, 3));
        x.bars(1);
        Due.is("8: the best, first", x.ofSort(0, 2), x.best(0));
        Due.is("8: the best, second", x.ofSort(1, 2), x.best(1));
        Due.is("8: the best again", x.bars(1), 0);
        Due.is("8: -1", x.bars(-1), RopeLine.OUTSIDE);
        Due.is("8: 3", x.bars(3), RopeLine.OUTSIDE);
        Due.is("8: no place", new RopeLine().bars(0), RopeLine.STATE);
        Due.is("8: 3, no place", new RopeLine().bars(3), RopeLine.OUTSIDE);
        Due.is("8: no sorts", Texts.at("m5;c2").bars(2), 0);
    }
}
