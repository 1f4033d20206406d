/** Puts texts on sheets and reads places by them. */
final class Texts {
    private Texts() {
    }

    static RopeLine at(String text) {
        RopeLine x = new RopeLine();
        int sorts = read(x, text);
        if (sorts < 0) Due.holds("place " + text + " answered " + sorts + ": it is taken", false);
        return x;
    }

    /** The same, all BARS 5. */
    static RopeLine open(String text) {
        RopeLine x = at(text);
        x.bars(2);
        return x;
    }

    /** The answer of place() to a text that fills sheet 0. */
    static int read(RopeLine x, String text) {
        fill(x, 0, 0, text);
        return x.place(0, 0, 0, text.length());
    }

    static void fill(RopeLine x, int sheet, int lane, String text) {
        x.sheet(sheet, lane, text.length());
        for (int i = 0; i < text.length(); i++) x.put(sheet, i, text.charAt(i));
    }

    /** The answer of place() to a text on a new object. */
    static void reads(String text, int due) {
        Due.is("place by " + text, read(new RopeLine(), text), due);
    }

    /** A text that is not taken: how far TEXTS go on with it. */
    static void fails(String text, int firstFault) {
        reads(text, -100 - firstFault);
    }
}
