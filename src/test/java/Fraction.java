import java.math.BigInteger;

/** An exact fraction with a denominator above 0. */
final class Fraction implements Comparable<Fraction> {
    static final Fraction ZERO = of(0, 1);
    static final Fraction ONE = of(1, 1);

    private final BigInteger top;
    private final BigInteger bottom;

    private Fraction(BigInteger top, BigInteger bottom) {
        BigInteger shared = top.gcd(bottom);
        BigInteger divisor = bottom.signum() < 0 ? shared.negate() : shared;
        this.top = top.divide(divisor);
        this.bottom = bottom.divide(divisor);
    }

    static Fraction of(long top, long bottom) {
        return new Fraction(BigInteger.valueOf(top), BigInteger.valueOf(bottom));
    }

    Fraction plus(Fraction other) {
        return new Fraction(
            top.multiply(other.bottom).add(other.top.multiply(bottom)), bottom.multiply(other.bottom));
    }

    Fraction minus(Fraction other) {
        return plus(other.times(of(-1, 1)));
    }

    Fraction times(Fraction other) {
        return new Fraction(top.multiply(other.top), bottom.multiply(other.bottom));
    }

    Fraction over(Fraction other) {
        return new Fraction(top.multiply(other.bottom), bottom.multiply(other.top));
    }

    boolean isZero() {
        return top.signum() == 0;
    }

    boolean isBelow(Fraction other) {
        return compareTo(other) < 0;
    }

    @Override
    public int compareTo(Fraction other) {
        return top.multiply(other.bottom).compareTo(other.top.multiply(bottom));
    }
}
