/** Puts texts on sheets and reads places by them. */
final class Texts {
    private Texts() {
    }

    static RopeLine at(String text) {
        RopeLine x = new RopeLine();
        Due.holds("place " + text + " is taken", read(x, text) >= 0);
        return x;
    }

    /** The answer of place() to a text that fills sheet 0. */
    static int read(RopeLine x, String text) {
        x.sheet(0, 0, text.length());
        for (int i = 0; i < text.length(); i++) x.put(0, i, text.charAt(i));
        return x.place(0, 0, 0, text.length());
    }
}
