import java.math.BigInteger;

/** A fraction in lowest terms, for the model. */
final class Ratio {
    static final Ratio ZERO = of(0);

    final BigInteger above;
    final BigInteger below;

    private Ratio(BigInteger above, BigInteger below) {
        BigInteger divisor = above.gcd(below);
        BigInteger side = BigInteger.valueOf(below.signum());
        this.above = above.divide(divisor).multiply(side);
        this.below = below.divide(divisor).multiply(side);
    }

    static Ratio of(long value) {
        return new Ratio(BigInteger.valueOf(value), BigInteger.ONE);
    }

    Ratio plus(Ratio o) {
        return new Ratio(above.multiply(o.below).add(o.above.multiply(below)), below.multiply(o.below));
    }

    Ratio minus(Ratio o) {
        return plus(new Ratio(o.above.negate(), o.below));
    }

    Ratio times(Ratio o) {
        return new Ratio(above.multiply(o.above), below.multiply(o.below));
    }

    Ratio by(Ratio o) {
        return new Ratio(above.multiply(o.below), below.multiply(o.above));
    }

    boolean isZero() {
        return above.signum() == 0;
    }
}
