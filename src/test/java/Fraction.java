import java.math.BigInteger;

/** An exact fraction in lowest terms, for the model only: as long as it needs to be. */
record Fraction(BigInteger upper, BigInteger lower) implements Comparable<Fraction> {
    static final Fraction ZERO = of(0, 1);

    static Fraction of(long upper, long lower) {
        return of(BigInteger.valueOf(upper), BigInteger.valueOf(lower));
    }

    static Fraction of(BigInteger upper, BigInteger lower) {
        BigInteger common = upper.gcd(lower);
        if (lower.signum() < 0) {
            common = common.negate();
        }
        return new Fraction(upper.divide(common), lower.divide(common));
    }

    Fraction plus(Fraction other) {
        return of(upper.multiply(other.lower).add(other.upper.multiply(lower)), lower.multiply(other.lower));
    }

    Fraction minus(Fraction other) {
        return plus(new Fraction(other.upper.negate(), other.lower));
    }

    Fraction times(Fraction other) {
        return of(upper.multiply(other.upper), lower.multiply(other.lower));
    }

    Fraction times(long by) {
        return times(of(by, 1));
    }

    Fraction by(Fraction other) {
        return of(upper.multiply(other.lower), lower.multiply(other.upper));
    }

    @Override
    public int compareTo(Fraction other) {
        return upper.multiply(other.lower).compareTo(other.upper.multiply(lower));
    }

    boolean below(Fraction other) {
        return compareTo(other) < 0;
    }

    static Fraction least(Fraction a, Fraction b) {
        if (a == null) {
            return b;
        }
        return b == null || a.compareTo(b) <= 0 ? a : b;
    }
}
