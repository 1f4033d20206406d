import java.math.BigInteger;

/** An exact number, for what the tests reckon in another way than the class does. */
final class Fraction implements Comparable<Fraction> {
    static final Fraction ZERO = of(0, 1);
    static final Fraction ONE = of(1, 1);

    final BigInteger upper;
    final BigInteger lower;

    private Fraction(BigInteger upper, BigInteger lower) {
        BigInteger common = upper.gcd(lower);
        if (lower.signum() < 0) common = common.negate();
        this.upper = upper.divide(common);
        this.lower = lower.divide(common);
    }

    static Fraction of(long upper, long lower) {
        return new Fraction(BigInteger.valueOf(upper), BigInteger.valueOf(lower));
    }

    static Fraction whole(long number) {
        return of(number, 1);
    }

    Fraction plus(Fraction o) {
        return new Fraction(upper.multiply(o.lower).add(o.upper.multiply(lower)), lower.multiply(o.lower));
    }

    Fraction minus(Fraction o) {
        return new Fraction(upper.multiply(o.lower).subtract(o.upper.multiply(lower)), lower.multiply(o.lower));
    }

    Fraction times(Fraction o) {
        return new Fraction(upper.multiply(o.upper), lower.multiply(o.lower));
    }

    Fraction by(Fraction o) {
        return new Fraction(upper.multiply(o.lower), lower.multiply(o.upper));
    }

    boolean isZero() {
        return upper.signum() == 0;
    }

    long part(int which) {
        return (which == 0 ? upper : lower).longValueExact();
    }

    @Override
    public int compareTo(Fraction o) {
        return upper.multiply(o.lower).compareTo(o.upper.multiply(lower));
    }

    /** Solves rows (each with its right side last) by elimination; the rows are used up. */
    static Fraction[] solve(Fraction[][] rows) {
        int n = rows.length;
        for (int i = 0; i < n; i++) {
            int pivot = i;
            while (rows[pivot][i].isZero()) pivot++;
            Fraction[] swap = rows[i];
            rows[i] = rows[pivot];
            rows[pivot] = swap;
            for (int r = 0; r < n; r++) {
                if (r == i || rows[r][i].isZero()) continue;
                Fraction factor = rows[r][i].by(rows[i][i]);
                for (int c = i; c <= n; c++) rows[r][c] = rows[r][c].minus(factor.times(rows[i][c]));
            }
        }
        Fraction[] answer = new Fraction[n];
        for (int i = 0; i < n; i++) answer[i] = rows[i][n].by(rows[i][i]);
        return answer;
    }
}
