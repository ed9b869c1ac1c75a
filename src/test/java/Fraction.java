import java.math.BigInteger;

/** A fraction in lowest terms, for the model: slow and without a limit. */
record Fraction(BigInteger upper, BigInteger lower) {
    static final Fraction ZERO = of(0, 1);

    static Fraction of(long upper, long lower) {
        return of(BigInteger.valueOf(upper), BigInteger.valueOf(lower));
    }

    static Fraction of(BigInteger upper, BigInteger lower) {
        BigInteger common = upper.gcd(lower);
        return new Fraction(upper.divide(common), lower.divide(common));
    }

    Fraction plus(Fraction other) {
        return of(upper.multiply(other.lower).add(other.upper.multiply(lower)), lower.multiply(other.lower));
    }

    Fraction times(Fraction other) {
        return of(upper.multiply(other.upper), lower.multiply(other.lower));
    }

    Fraction by(Fraction other) {
        return of(upper.multiply(other.lower), lower.multiply(other.upper));
    }

    boolean isZero() {
        return upper.signum() == 0;
    }

    boolean isLess(Fraction other) {
        return upper.multiply(other.lower).compareTo(other.upper.multiply(lower)) < 0;
    }
}
