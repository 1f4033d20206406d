/** Promise 1, and promises 3 to 8: a new object, and what is set in a PLACE. */
final class PlaceSentences {
    private PlaceSentences() {
    }

    static void all() {
        newObject();
        about();
        aboutNoBoard();
        aboutOutside();
        aboutNoPlace();
        ofSort();
        ofSortUnknown();
        ofSortOutside();
        bar();
        barUnknown();
        barOutside();
        toll();
        tollOutside();
        tollNoPlace();
        board();
        boardAsItWas();
        boardOutside();
        boardNoPlace();
        bars();
        barsChanged();
        barsOutside();
        barsNoPlace();
    }

    private static void newObject() {
        Sentence.promise(1, "No PLACE, SHEETS.");
        RopeLine x = new RopeLine();
        for (int what = 0; what < 6; what++) Due.is("about(" + what + ")", x.about(what), RopeLine.STATE);
        for (int what = 0; what < 5; what++) Due.is("many(" + what + ")", x.many(what), 0);
        for (int k = 0; k < 4; k++) Due.is("lose(" + k + ")", x.lose(k), 0);
        for (int k = 0; k < 4; k++) Due.is("put(" + k + ", 0, 0)", x.put(k, 0, 0), -11);
        Due.is("SORT 0", x.ofSort(0, 0), RopeLine.UNKNOWN);
    }

    private static void about() {
        Sentence.promise(3, "0 SERVED, 1 COST, 2 how many twelfths all SORTS come together, 3 TOLL,");
        RopeLine x = Texts.at("m11;c9;s1v0;s9v99;s1v7");
        x.toll(999);
        int[] due = {11, 9, 11, 999};
        for (int what = 0; what < 4; what++) Due.is("about(" + what + ")", x.about(what), due[what]);
        Due.is("twelfths of no SORTS", Texts.at("m1;c1").about(2), 0);
        Due.is("TOLL at first", Texts.at("m1;c1").about(3), 0);
    }

    private static void aboutNoBoard() {
        Sentence.promise(3, "4 r of the BOARD (0: none), 5 its lie (0).");
        RopeLine x = Texts.at("m5;c3;s6v40");
        Due.is("r of none", x.about(4), 0);
        Due.is("lie of none", x.about(5), 0);
        x.board(20, -20);
        Due.is("r", x.about(4), 20);
        Due.is("lie", x.about(5), -20);
        x.board(1, 20);
        Due.is("r", x.about(4), 1);
        Due.is("lie", x.about(5), 20);
        x.board(0, 20);
        Due.is("r of none again", x.about(4), 0);
        Due.is("its lie is 0, whatever was told", x.about(5), 0);
    }

    private static void aboutOutside() {
        Sentence.promise(3, "OUTSIDE");
        RopeLine x = Texts.at("m5;c3;s6v40");
        for (int wrong : new int[] {-1, 6, Integer.MIN_VALUE, Integer.MAX_VALUE}) {
            Due.is("about(" + wrong + ")", x.about(wrong), RopeLine.OUTSIDE);
            Due.is("about(" + wrong + ") of no PLACE", new RopeLine().about(wrong), RopeLine.OUTSIDE);
        }
    }

    private static void aboutNoPlace() {
        Sentence.promise(3, "STATE: there is no PLACE.");
        RopeLine x = new RopeLine();
        Texts.read(x, "m12;c3");
        for (int what = 0; what < 6; what++) Due.is("about(" + what + ")", x.about(what), RopeLine.STATE);
    }

    private static void ofSort() {
        Sentence.promise(4, "Of a SORT: 0 twelfths, 1 WORTH, 2 BAR, 3 HIS BAR.");
        RopeLine x = Texts.at("m6;c2;s4v30;s3v12");
        x.bar(1, 4);
        int[][] due = {{4, 30, 0, 5}, {3, 12, 4, 3}};
        for (int s = 0; s < 2; s++) {
            for (int what = 0; what < 4; what++) {
                Due.is("ofSort(" + s + ", " + what + ")", x.ofSort(s, what), due[s][what]);
            }
        }
    }

    private static void ofSortUnknown() {
        Sentence.promise(4, "UNKNOWN");
        RopeLine x = Texts.at("m6;c2;s4v30;s3v12");
        for (int wrong : new int[] {-1, 2, 3, Integer.MIN_VALUE, Integer.MAX_VALUE}) {
            Due.is("ofSort(" + wrong + ", 0)", x.ofSort(wrong, 0), RopeLine.UNKNOWN);
        }
        Due.is("SORT 2 and what 9", x.ofSort(2, 9), RopeLine.UNKNOWN);
        Due.is("no SORTS", Texts.at("m6;c2").ofSort(0, 0), RopeLine.UNKNOWN);
        Due.is("no PLACE", new RopeLine().ofSort(0, 9), RopeLine.UNKNOWN);
    }

    private static void ofSortOutside() {
        Sentence.promise(4, "OUTSIDE");
        RopeLine x = Texts.at("m6;c2;s4v30;s3v12");
        for (int wrong : new int[] {-1, 4, Integer.MIN_VALUE, Integer.MAX_VALUE}) {
            Due.is("ofSort(1, " + wrong + ")", x.ofSort(1, wrong), RopeLine.OUTSIDE);
        }
    }

    private static void bar() {
        Sentence.promise(5, "BAR of a SORT becomes v: what it was.");
        RopeLine x = Texts.at("m6;c2;s4v30;s3v12;s2v1");
        for (int s = 0; s < 3; s++) {
            int was = 0;
            for (int v : new int[] {5, 0, 1, 1, 4, 3}) {
                Due.is("bar(" + s + ", " + v + ")", x.bar(s, v), was);
                Due.is("BAR", x.ofSort(s, 2), v);
                was = v;
            }
        }
        x.bar(0, 5);
        Due.is("the other one is as it was", x.ofSort(1, 2), 3);
    }

    private static void barUnknown() {
        Sentence.promise(5, "UNKNOWN");
        RopeLine x = Texts.at("m6;c2;s4v30;s3v12");
        for (int wrong : new int[] {-1, 2, 3, Integer.MIN_VALUE, Integer.MAX_VALUE}) {
            Due.is("bar(" + wrong + ", 1)", x.bar(wrong, 1), RopeLine.UNKNOWN);
        }
        Due.is("SORT 2 and 6", x.bar(2, 6), RopeLine.UNKNOWN);
        Due.is("no PLACE", new RopeLine().bar(0, 0), RopeLine.UNKNOWN);
    }

    private static void barOutside() {
        Sentence.promise(5, "OUTSIDE");
        RopeLine x = Texts.at("m6;c2;s4v30;s3v12");
        x.bar(0, 4);
        for (int wrong : new int[] {-1, 6, Integer.MIN_VALUE, Integer.MAX_VALUE}) {
            Due.is("bar(0, " + wrong + ")", x.bar(0, wrong), RopeLine.OUTSIDE);
        }
        Due.is("it is as it was", x.bar(0, 5), 4);
    }

    private static void toll() {
        Sentence.promise(6, "TOLL becomes v (0 .. 999): what it was.");
        RopeLine x = Texts.at("m5;c3;s6v40");
        Due.is("toll(999)", x.toll(999), 0);
        Due.is("TOLL", x.about(3), 999);
        Due.is("toll(0)", x.toll(0), 999);
        Due.is("toll(0)", x.toll(0), 0);
        Due.is("TOLL", x.about(3), 0);
    }

    private static void tollOutside() {
        Sentence.promise(6, "OUTSIDE");
        RopeLine x = Texts.at("m5;c3;s6v40");
        x.toll(7);
        for (int wrong : new int[] {-1, 1000, Integer.MIN_VALUE, Integer.MAX_VALUE}) {
            Due.is("toll(" + wrong + ")", x.toll(wrong), RopeLine.OUTSIDE);
            Due.is("toll(" + wrong + ") of no PLACE", new RopeLine().toll(wrong), RopeLine.OUTSIDE);
        }
        Due.is("it is as it was", x.about(3), 7);
    }

    private static void tollNoPlace() {
        Sentence.promise(6, "STATE: there is no PLACE.");
        Due.is("toll(0)", new RopeLine().toll(0), RopeLine.STATE);
        Due.is("toll(999)", new RopeLine().toll(999), RopeLine.STATE);
        Due.is("a PLACE without SORTS", Texts.at("m5;c3").toll(999), 0);
    }

    private static void board() {
        Sentence.promise(7, "A BOARD of steps r with a lie (r 0: none): 1;");
        RopeLine x = Texts.at("m5;c3;s6v40");
        int[][] boards = {{1, 0}, {1, 1}, {2, 1}, {20, -20}, {20, 20}, {1, -20}, {1, 20}};
        for (int[] b : boards) {
            Due.is("board(" + b[0] + ", " + b[1] + ")", x.board(b[0], b[1]), 1);
            Due.is("r", x.about(4), b[0]);
            Due.is("lie", x.about(5), b[1]);
        }
        Due.is("board(0, 0)", x.board(0, 0), 1);
        Due.is("r of none", x.about(4), 0);
        Due.is("MINUTES are cut again", x.minutes(0, 2), 2);
    }

    private static void boardAsItWas() {
        Sentence.promise(7, "0: it was so (of none whatever the lie).");
        RopeLine x = Texts.at("m5;c3;s6v40");
        for (int lie : new int[] {0, 1, -1, 20, -20}) Due.is("board(0, " + lie + ") of none", x.board(0, lie), 0);
        x.board(5, -3);
        Due.is("board(5, -3)", x.board(5, -3), 0);
        Due.is("board(5, 3) is another", x.board(5, 3), 1);
        Due.is("board(4, 3) is another", x.board(4, 3), 1);
        Due.is("board(0, 3) is another", x.board(0, 3), 1);
        Due.is("board(0, 20)", x.board(0, 20), 0);
        Due.is("lie", x.about(5), 0);
    }

    private static void boardOutside() {
        Sentence.promise(7, "OUTSIDE");
        RopeLine x = Texts.at("m5;c3;s6v40");
        x.board(5, -3);
        for (int wrong : new int[] {-1, 21, Integer.MIN_VALUE, Integer.MAX_VALUE}) {
            Due.is("board(" + wrong + ", 0)", x.board(wrong, 0), RopeLine.OUTSIDE);
            Due.is("board(" + wrong + ", 0) of no PLACE", new RopeLine().board(wrong, 0), RopeLine.OUTSIDE);
        }
        for (int wrong : new int[] {-21, 21, Integer.MIN_VALUE, Integer.MAX_VALUE}) {
            Due.is("board(1, " + wrong + ")", x.board(1, wrong), RopeLine.OUTSIDE);
            Due.is("board(0, " + wrong + ")", x.board(0, wrong), RopeLine.OUTSIDE);
            Due.is("board(1, " + wrong + ") of no PLACE", new RopeLine().board(1, wrong), RopeLine.OUTSIDE);
        }
        Due.is("it is as it was", x.board(5, -3), 0);
    }

    private static void boardNoPlace() {
        Sentence.promise(7, "STATE: there is no PLACE.");
        Due.is("board(0, 0)", new RopeLine().board(0, 0), RopeLine.STATE);
        Due.is("board(20, 20)", new RopeLine().board(20, 20), RopeLine.STATE);
    }

    private static void bars() {
        Sentence.promise(8, "BARS of all SORTS become HIS BARS (what 0), THE BEST (1), 5 (2):");
        RopeLine x = Texts.at("m6;c2;s4v30;s3v12");
        int[][] due = {{5, 3}, {3, 1}, {5, 5}};
        for (int what = 0; what < 3; what++) {
            x.bars(what);
            for (int s = 0; s < 2; s++) {
                Due.is("BAR of " + s + " behind bars(" + what + ")", x.ofSort(s, 2), due[what][s]);
            }
        }
        // Told by steps of 2 and 1 more: 3, 5, 7, 9, 11 minutes; they cost 6, 10, 14, 18, 22.
        x.toll(4);
        x.board(2, 1);
        x.bars(0);
        Due.is("HIS BAR of 26, by TOLL and BOARD", x.ofSort(0, 2), 5);
        Due.is("HIS BAR of 8, by TOLL and BOARD", x.ofSort(1, 2), 1);
        x.bars(1);
        Due.is("THE BEST, whatever TOLL and BOARD", x.ofSort(0, 2), 3);
        Due.is("THE BEST of the other", x.ofSort(1, 2), 1);
    }

    private static void barsChanged() {
        Sentence.promise(8, "how many of them changed.");
        RopeLine x = Texts.at("m6;c2;s4v30;s3v12;s1v0");
        Due.is("three become 5", x.bars(2), 3);
        Due.is("none does", x.bars(2), 0);
        x.bar(1, 4);
        Due.is("one does", x.bars(2), 1);
        Due.is("5, 3, 0 of 5, 5, 5", x.bars(0), 2);
        Due.is("as they were", x.bars(0), 0);
        x.bars(1);
        Due.is("THE BEST again", x.bars(1), 0);
        Due.is("no SORTS", Texts.at("m5;c2").bars(2), 0);
    }

    private static void barsOutside() {
        Sentence.promise(8, "OUTSIDE");
        RopeLine x = Texts.at("m6;c2;s4v30;s3v12");
        for (int wrong : new int[] {-1, 3, Integer.MIN_VALUE, Integer.MAX_VALUE}) {
            Due.is("bars(" + wrong + ")", x.bars(wrong), RopeLine.OUTSIDE);
            Due.is("bars(" + wrong + ") of no PLACE", new RopeLine().bars(wrong), RopeLine.OUTSIDE);
        }
        Due.is("BARS are as they were", x.ofSort(0, 2), 0);
    }

    private static void barsNoPlace() {
        Sentence.promise(8, "STATE: there is no PLACE.");
        for (int what = 0; what < 3; what++) {
            Due.is("bars(" + what + ")", new RopeLine().bars(what), RopeLine.STATE);
            Due.is("bars(" + what + ") without SORTS", Texts.at("m5;c2").bars(what), 0);
        }
    }
}
