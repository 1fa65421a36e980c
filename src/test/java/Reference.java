import java.math.BigInteger;

/**
 * What the document asks for, by fractions of whole numbers of any size: slow and plain, and
 * without any code or idea of FloatUnit. Answers leave the flags that they raise in flags.
 */
final class Reference {
    static final int INEXACT = 1, TINY = 2, HUGE = 4, BY_ZERO = 8, INVALID = 16;

    final int precision;
    final int bias;
    final int mode;
    int flags = 0;

    Reference(boolean narrow, int mode) {
        this.precision = narrow ? 24 : 53;
        this.bias = narrow ? 127 : 1023;
        this.mode = mode;
    }

    /** upper / lower, lower above 0. */
    record Fraction(BigInteger upper, BigInteger lower) {
        static Fraction scaled(BigInteger whole, int power) {
            return power >= 0 ? new Fraction(whole.shiftLeft(power), BigInteger.ONE)
                    : new Fraction(whole, BigInteger.ONE.shiftLeft(-power));
        }

        Fraction plus(Fraction other) {
            return new Fraction(upper.multiply(other.lower).add(other.upper.multiply(lower)),
                    lower.multiply(other.lower));
        }

        Fraction times(Fraction other) {
            return new Fraction(upper.multiply(other.upper), lower.multiply(other.lower));
        }

        Fraction minus(Fraction other) {
            return plus(new Fraction(other.upper.negate(), other.lower));
        }

        Fraction over(Fraction other) {
            BigInteger down = lower.multiply(other.upper);
            BigInteger up = upper.multiply(other.lower);
            return down.signum() < 0 ? new Fraction(up.negate(), down.negate()) : new Fraction(up, down);
        }

        /** Without what is behind the point. */
        BigInteger cut() {
            return upper.divide(lower);
        }

        boolean isWhole() {
            return upper.mod(lower).signum() == 0;
        }

        int compare(Fraction other) {
            return upper.multiply(other.lower).compareTo(other.upper.multiply(lower));
        }
    }

    int width() {
        return precision == 53 ? 64 : 32;
    }

    boolean minus(long bits) {
        return (bits >>> (width() - 1) & 1) == 1;
    }

    int exponent(long bits) {
        return (int) (bits >>> (precision - 1)) & (2 * bias + 1);
    }

    long part(long bits) {
        return bits & ((1L << (precision - 1)) - 1);
    }

    boolean none(long bits) {
        return exponent(bits) == 2 * bias + 1 && part(bits) != 0;
    }

    boolean endless(long bits) {
        return exponent(bits) == 2 * bias + 1 && part(bits) == 0;
    }

    boolean zero(long bits) {
        return exponent(bits) == 0 && part(bits) == 0;
    }

    Fraction value(long bits) {
        int x = exponent(bits);
        long f = part(bits);
        BigInteger size = BigInteger.valueOf(x == 0 ? f : f + (1L << (precision - 1)));
        return Fraction.scaled(minus(bits) ? size.negate() : size,
                (x == 0 ? 1 : x) - bias - (precision - 1));
    }

    long make(boolean minus, int x, long f) {
        return (minus ? 1L << (width() - 1) : 0) | (long) x << (precision - 1) | f;
    }

    long makeNone() {
        return make(false, 2 * bias + 1, 1L << (precision - 2));
    }

    long makeEndless(boolean minus) {
        return make(minus, 2 * bias + 1, 0);
    }

    long makeZero(boolean minus) {
        return make(minus, 0, 0);
    }

    long invalid() {
        flags |= INVALID;
        return makeNone();
    }

    /** Of an exact number that is not 0. */
    long round(Fraction exact) {
        boolean minus = exact.upper.signum() < 0;
        Fraction size = new Fraction(exact.upper.abs(), exact.lower);
        int power = Math.max(floorLog(size), 1 - bias) - (precision - 1);
        Fraction inUnits = size.times(Fraction.scaled(BigInteger.ONE, -power));
        BigInteger[] parts = inUnits.upper.divideAndRemainder(inUnits.lower);
        BigInteger units = parts[0];
        boolean inexact = parts[1].signum() != 0;
        int toHalf = parts[1].shiftLeft(1).compareTo(inUnits.lower);
        boolean up = mode == 0 && (toHalf > 0 || toHalf == 0 && units.testBit(0))
                || mode == 2 && inexact && !minus || mode == 3 && inexact && minus;
        if (up) {
            units = units.add(BigInteger.ONE);
        }
        Fraction rounded = Fraction.scaled(units, power);
        if (rounded.compare(Fraction.scaled(BigInteger.ONE, bias + 1)) >= 0) {
            flags |= HUGE | INEXACT;
            boolean finite = mode == 1 || mode == 2 && minus || mode == 3 && !minus;
            return finite ? make(minus, 2 * bias, (1L << (precision - 1)) - 1) : makeEndless(minus);
        }
        long bits = encode(minus, rounded);
        if (inexact) {
            flags |= exponent(bits) == 0 ? INEXACT | TINY : INEXACT;
        }
        return bits;
    }

    /** A number that the format has. */
    private long encode(boolean minus, Fraction size) {
        if (size.upper.signum() == 0) {
            return makeZero(minus);
        }
        int high = Math.max(floorLog(size), 1 - bias);
        BigInteger units = size.times(Fraction.scaled(BigInteger.ONE, precision - 1 - high)).cut();
        long f = units.longValueExact();
        boolean usual = f >= 1L << (precision - 1);
        return make(minus, usual ? high + bias : 0, usual ? f - (1L << (precision - 1)) : f);
    }

    private static int floorLog(Fraction size) {
        int guess = size.upper.bitLength() - size.lower.bitLength();
        return size.compare(Fraction.scaled(BigInteger.ONE, guess)) >= 0 ? guess : guess - 1;
    }

    long work(int op, long x, long y) {
        if (none(x) || none(y)) {
            return makeNone();
        }
        switch (op) {
            case FloatUnit.ADD:
                return add(x, y);
            case FloatUnit.SUBTRACT:
                return add(x, y ^ 1L << (width() - 1));
            case FloatUnit.MULTIPLY:
                return multiply(x, y);
            case FloatUnit.DIVIDE:
                return divide(x, y);
            default:
                return rest(x, y);
        }
    }

    private long add(long x, long y) {
        if (endless(x) && endless(y) && minus(x) != minus(y)) {
            return invalid();
        }
        if (endless(x) || endless(y)) {
            return makeEndless(endless(x) ? minus(x) : minus(y));
        }
        Fraction exact = value(x).plus(value(y));
        if (exact.upper.signum() != 0) {
            return round(exact);
        }
        boolean bothZeros = zero(x) && zero(y) && minus(x) == minus(y);
        return makeZero(bothZeros ? minus(x) : mode == 3);
    }

    private long multiply(long x, long y) {
        boolean minus = minus(x) ^ minus(y);
        if (endless(x) && zero(y) || zero(x) && endless(y)) {
            return invalid();
        }
        if (endless(x) || endless(y)) {
            return makeEndless(minus);
        }
        Fraction exact = value(x).times(value(y));
        return exact.upper.signum() == 0 ? makeZero(minus) : round(exact);
    }

    private long divide(long x, long y) {
        boolean minus = minus(x) ^ minus(y);
        if (endless(x) && endless(y) || zero(x) && zero(y)) {
            return invalid();
        }
        if (endless(x)) {
            return makeEndless(minus);
        }
        if (endless(y) || zero(x)) {
            return makeZero(minus);
        }
        if (zero(y)) {
            flags |= BY_ZERO;
            return makeEndless(minus);
        }
        return round(value(x).over(value(y)));
    }

    private long rest(long x, long y) {
        if (endless(x) || zero(y)) {
            return invalid();
        }
        if (endless(y)) {
            return x & -1L >>> (64 - width());
        }
        BigInteger quotient = value(x).over(value(y)).cut();
        Fraction exact = value(x).minus(value(y).times(Fraction.scaled(quotient, 0)));
        return exact.upper.signum() == 0 ? makeZero(minus(x)) : round(exact);
    }

    int compare(long x, long y, int ifNone) {
        if (none(x) || none(y)) {
            return ifNone;
        }
        return rank(x).compare(rank(y));
    }

    /** The value, with endless ones beyond all others. */
    private Fraction rank(long bits) {
        Fraction beyond = Fraction.scaled(BigInteger.valueOf(minus(bits) ? -1 : 1), bias + 1);
        return endless(bits) ? beyond : value(bits);
    }

    long of(long v) {
        return v == 0 ? 0 : round(Fraction.scaled(BigInteger.valueOf(v), 0));
    }

    long whole(long bits, boolean half) {
        if (none(bits)) {
            flags |= INVALID;
            return 0;
        }
        int size = half ? 31 : 63;
        BigInteger least = BigInteger.ONE.shiftLeft(size).negate();
        BigInteger greatest = BigInteger.ONE.shiftLeft(size).subtract(BigInteger.ONE);
        BigInteger cut = rank(bits).cut();
        if (endless(bits) || cut.compareTo(least) < 0 || cut.compareTo(greatest) > 0) {
            flags |= INVALID;
            return (minus(bits) ? least : greatest).longValueExact();
        }
        if (!value(bits).isWhole()) {
            flags |= INEXACT;
        }
        return cut.longValueExact();
    }

    /** From the other format into this one. */
    long turnFrom(Reference other, long bits) {
        if (other.none(bits)) {
            return makeNone();
        }
        if (other.endless(bits)) {
            return makeEndless(other.minus(bits));
        }
        return other.zero(bits) ? makeZero(other.minus(bits)) : round(other.value(bits));
    }

    int kind(long bits) {
        int sign = minus(bits) ? 8 : 0;
        if (exponent(bits) == 2 * bias + 1) {
            return sign + (part(bits) == 0 ? 1 : 0);
        }
        if (exponent(bits) != 0) {
            return sign + 2;
        }
        return sign + (part(bits) == 0 ? 4 : 3);
    }

    long negate(long bits) {
        return none(bits) ? makeNone() : make(!minus(bits), exponent(bits), part(bits));
    }
}
