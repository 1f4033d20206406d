/** Objects that several tests begin with. */
final class States {
    private States() {
    }

    /**
     * COMER 0 is DONE (waited 2), 1 STANDS (waited 1), 2 went on; SORTS 2, 1, 0. SHEET 0 has the TEXT's bytes, 1 has
     * five shorts, 2 no cells, 3 nothing. TOLL and BOARD are set.
     */
    static RopeLine kinds() {
        RopeLine x = Texts.at("m6;c2;s4v30;s3v12;s2v9");
        x.toll(3);
        x.board(4, 5);
        x.bar(1, 5);
        x.bar(2, 5);
        x.minute(11, 8);
        x.minute(11, 5);
        x.minute(0, 1);
        Texts.fill(x, 1, 1, "m5;c2");
        x.sheet(2, 2, 0);
        return x;
    }

    /** Four stand there, of WORTH 12, 30, 30 (of another SORT), 12. */
    static RopeLine four() {
        RopeLine x = Texts.open("m6;c2;s4v12;s3v30;s1v30");
        x.minute(11, 0);
        x.minute(11, 4);
        x.minute(11, 7);
        x.minute(11, 3);
        return x;
    }

    /** 40 COMERS there were, two of them stand there. */
    static RopeLine forty() {
        RopeLine x = Texts.at("m6;c2;s4v30");
        x.bar(0, 2);
        for (int k = 0; k < 40; k++) x.minute(11, 0);
        return x;
    }

    /** The BAR of the one SORT is b, as many stand there as told, none of them is SERVED so far. */
    static RopeLine standing(int many, int b) {
        RopeLine x = Texts.open("m6;c2;s4v30");
        for (int k = 0; k < many; k++) x.minute(11, 0);
        x.bar(0, b);
        return x;
    }
}
