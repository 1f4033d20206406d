/** All that an object shows, as one text: two texts are the same if nothing that can be seen has changed between. */
final class Seen {
    private static final int FEW_COMERS = 8;

    private final RopeLine x;
    private final StringBuilder all = new StringBuilder();

    private Seen(RopeLine x) {
        this.x = x;
    }

    /** It asks some 100 calls, and leaves fault() as the last one of them does. */
    static String of(RopeLine x) {
        Seen seen = new Seen(x);
        seen.place();
        seen.line();
        for (int k = 0; k < 4; k++) seen.sheet(k);
        return seen.all.toString();
    }

    private void put(long v) {
        all.append(v).append(' ');
    }

    private void place() {
        all.append("place ");
        for (int what = 0; what < 6; what++) put(x.about(what));
        for (int s = 0; s < x.many(0); s++) {
            all.append("sort ");
            for (int what = 0; what < 4; what++) put(x.ofSort(s, what));
        }
    }

    private void line() {
        all.append("line ");
        for (int what = 0; what < 5; what++) put(x.many(what));
        for (int k = -1; k < 5; k++) put(x.line(k));
        put(x.envy());
        put(x.trace());
        int order = x.order(0);
        x.order(order);
        put(order);
        int comers = x.many(1);
        for (int c = 0; c < comers; c++) {
            all.append("comer ");
            for (int what = 0; what < (comers > FEW_COMERS ? 3 : 6); what++) put(x.ofComer(c, what));
        }
    }

    private void sheet(int k) {
        all.append("sheet ");
        for (int lane = 0; lane < 3; lane++) {
            put(x.cell(k, 0, lane));
            int fault = x.fault();
            put(fault);
            for (int i = 1; fault == 0 && i < 6; i++) put(x.cell(k, i, lane));
            if (fault == 0) put(x.cell(k, 59, lane));
        }
    }
}
