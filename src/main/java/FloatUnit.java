/**
 * A unit for binary numbers in two sizes, in whole-number arithmetic alone.
 *
 * Every operation finds its exact result as a magnitude times a power of two and leaves the
 * rest to rounded. Where a magnitude can't hold all of the exact result, its lowest bit is set
 * in place of what is lost: rounding always cuts two bits or more off such a magnitude, so
 * that bit only says "a little more than this" and never decides a half.
 */
public final class FloatUnit {
    public static final int ADD = 0, SUBTRACT = 1, MULTIPLY = 2, DIVIDE = 3, REST = 4;

    private static final int INEXACT = 1, TINY = 2, HUGE = 4, BY_ZERO = 8, INVALID = 16;

    private static final int NEAREST = 0, TO_ZERO = 1, UPWARD = 2, DOWNWARD = 3;

    private static final int REGISTERS = 16;

    /** The highest bit of a significand is this one, whatever the format. */
    private static final int LEAD_BIT = 52;

    /** The highest bit that a magnitude may have without being negative as a long. */
    private static final int TOP_BIT = 62;

    /** How far a significand goes left and still is a positive long. */
    private static final int SPARE = TOP_BIT - LEAD_BIT;

    private static final int LONG_BITS = 64;

    private static final long HIGHEST_BIT = 1L << 63;

    private static final long LOW_HALF = 0xFFFFFFFFL;

    private static final long GREATEST_WHOLE = 0x7FFFFFFFFFFFFFFFL, GREATEST_HALF = 0x7FFFFFFFL;

    private final long[] registers = new long[REGISTERS];
    private int currentMode = NEAREST;
    private int raised = 0;

    public FloatUnit() {
    }

    public long put(int r, long bits) throws IllegalArgumentException {
        requireRegister(r);
        long before = registers[r];
        registers[r] = bits;
        return before;
    }

    public long bits(int r) throws IllegalArgumentException {
        requireRegister(r);
        return registers[r];
    }

    public int mode(int m) throws IllegalArgumentException {
        if (m < NEAREST || m > DOWNWARD) {
            throw new IllegalArgumentException("no such mode");
        }
        int before = currentMode;
        currentMode = m;
        return before;
    }

    public int flags(int mask) {
        int before = raised;
        raised &= ~mask;
        return before;
    }

    public long work(int op, boolean narrow, int to, int x, int y) throws IllegalArgumentException {
        requireRegister(to);
        requireRegister(x);
        requireRegister(y);
        if (op < ADD || op > REST) {
            throw new IllegalArgumentException("no such operation");
        }
        Format format = format(narrow);
        return keep(to, result(op, format, format.own(registers[x]), format.own(registers[y])));
    }

    public int compare(boolean narrow, int x, int y, int ifNone) throws IllegalArgumentException {
        requireRegister(x);
        requireRegister(y);
        Format format = format(narrow);
        if (format.isNone(registers[x]) || format.isNone(registers[y])) {
            return ifNone;
        }
        long first = format.rank(registers[x]);
        long second = format.rank(registers[y]);
        if (first == second) {
            return 0;
        }
        return first < second ? -1 : 1;
    }

    public long of(boolean narrow, int to, long v) throws IllegalArgumentException {
        requireRegister(to);
        Format format = format(narrow);
        if (v == 0) {
            return keep(to, format.zero(false));
        }
        return keep(to, rounded(format, v < 0, v < 0 ? -v : v, 0));
    }

    public long whole(boolean narrow, int x, boolean half) throws IllegalArgumentException {
        requireRegister(x);
        Format format = format(narrow);
        long bits = registers[x];
        if (format.isNone(bits)) {
            raise(INVALID);
            return 0;
        }
        boolean minus = format.isMinus(bits);
        long greatest = half ? GREATEST_HALF : GREATEST_WHOLE;
        // without its sign, so 2 ** 63 is the long that wraps round to itself when negated
        long limit = minus ? greatest + 1 : greatest;
        long size = cut(format, bits, limit);
        return minus ? -size : size;
    }

    public long turn(boolean narrow, int to, int x) throws IllegalArgumentException {
        requireRegister(to);
        requireRegister(x);
        return keep(to, turned(format(narrow), format(!narrow), registers[x]));
    }

    public int kind(boolean narrow, int x) throws IllegalArgumentException {
        requireRegister(x);
        Format format = format(narrow);
        int sort = format.sort(registers[x]);
        return format.isMinus(registers[x]) ? sort + 8 : sort;
    }

    public long negate(boolean narrow, int to, int x) throws IllegalArgumentException {
        requireRegister(to);
        requireRegister(x);
        Format format = format(narrow);
        long bits = format.own(registers[x]);
        return keep(to, format.isNone(bits) ? format.none() : format.opposite(bits));
    }

    private static void requireRegister(int r) {
        if (r < 0 || r >= REGISTERS) {
            throw new IllegalArgumentException("no such register");
        }
    }

    private static Format format(boolean narrow) {
        return narrow ? Format.NARROW : Format.WIDE;
    }

    private long keep(int to, long bits) {
        registers[to] = bits;
        return bits;
    }

    private void raise(int flags) {
        raised |= flags;
    }

    private long invalid(Format format) {
        raise(INVALID);
        return format.none();
    }

    private long result(int op, Format format, long x, long y) {
        if (format.isNone(x) || format.isNone(y)) {
            return format.none();
        }
        switch (op) {
            case ADD:
                return sum(format, x, y);
            case SUBTRACT:
                return sum(format, x, format.opposite(y));
            case MULTIPLY:
                return product(format, x, y);
            case DIVIDE:
                return quotient(format, x, y);
            default:
                return rest(format, x, y);
        }
    }

    private long sum(Format format, long x, long y) {
        boolean sameSign = format.isMinus(x) == format.isMinus(y);
        if (format.isEndless(x)) {
            return format.isEndless(y) && !sameSign ? invalid(format) : x;
        }
        if (format.isEndless(y)) {
            return y;
        }
        int power = Math.max(format.power(x), format.power(y)) - (SPARE - 1);
        long total = term(format, x, power) + term(format, y, power);
        if (total == 0) {
            return format.zero(sameSign ? format.isMinus(x) : currentMode == DOWNWARD);
        }
        return rounded(format, total < 0, total < 0 ? -total : total, power);
    }

    /** The number with its sign, in units of 2 ** power; one bit is left for a sum's carry. */
    private static long term(Format format, long bits, int power) {
        int places = power - format.power(bits) + (SPARE - 1);
        long size = pressed(format.significand(bits) << (SPARE - 1), places);
        return format.isMinus(bits) ? -size : size;
    }

    /** Moved right; the lowest bit stands for all that is lost. */
    private static long pressed(long size, int places) {
        if (places > TOP_BIT) {
            return size == 0 ? 0 : 1;
        }
        long kept = size >>> places;
        return kept << places == size ? kept : kept | 1;
    }

    private long product(Format format, long x, long y) {
        boolean minus = format.isMinus(x) != format.isMinus(y);
        boolean byZero = format.isZero(x) || format.isZero(y);
        if (format.isEndless(x) || format.isEndless(y)) {
            return byZero ? invalid(format) : format.endless(minus);
        }
        if (byZero) {
            return format.zero(minus);
        }
        long upper = upperProduct(format.significand(x) << SPARE, format.significand(y) << SPARE);
        int power = format.power(x) + format.power(y) - 2 * SPARE + LONG_BITS;
        return rounded(format, minus, upper, power);
    }

    /** The product's upper 64 bits, the lowest of them standing for all below it, too. */
    private static long upperProduct(long a, long b) {
        long aHigh = a >>> 32;
        long aLow = a & LOW_HALF;
        long bHigh = b >>> 32;
        long bLow = b & LOW_HALF;
        long low = aLow * bLow;
        // a and b have 63 bits, so neither of these sums goes beyond a positive long
        long middle = aHigh * bLow + (low >>> 32);
        long cross = aLow * bHigh + (middle & LOW_HALF);
        long upper = aHigh * bHigh + (middle >>> 32) + (cross >>> 32);
        boolean exact = (cross & LOW_HALF) == 0 && (low & LOW_HALF) == 0;
        return exact ? upper : upper | 1;
    }

    private long quotient(Format format, long x, long y) {
        boolean minus = format.isMinus(x) != format.isMinus(y);
        if (format.isEndless(x)) {
            return format.isEndless(y) ? invalid(format) : format.endless(minus);
        }
        if (format.isEndless(y)) {
            return format.zero(minus);
        }
        long divisor = format.significand(y);
        if (divisor == 0) {
            return quotientByZero(format, x, minus);
        }
        if (format.isZero(x)) {
            return format.zero(minus);
        }
        long left = format.significand(x);
        long size = left / divisor;
        left %= divisor;
        int power = format.power(x) - format.power(y);
        // six rounds make 60 bits at least, five more than the wider format needs
        for (int round = 0; round < 6; round++) {
            left <<= SPARE;
            size = (size << SPARE) + left / divisor;
            left %= divisor;
            power -= SPARE;
        }
        return rounded(format, minus, left == 0 ? size : size | 1, power);
    }

    private long quotientByZero(Format format, long x, boolean minus) {
        if (format.isZero(x)) {
            return invalid(format);
        }
        raise(BY_ZERO);
        return format.endless(minus);
    }

    private long rest(Format format, long x, long y) {
        long divisor = format.significand(y);
        if (format.isEndless(x) || divisor == 0) {
            return invalid(format);
        }
        int gap = format.power(x) - format.power(y);
        if (format.isEndless(y) || gap < 0) {
            return x;
        }
        long left = format.significand(x) % divisor;
        for (int places = gap; places > 0; places -= SPARE) {
            left = (left << Math.min(places, SPARE)) % divisor;
        }
        boolean minus = format.isMinus(x);
        return left == 0 ? format.zero(minus) : rounded(format, minus, left, format.power(y));
    }

    private long turned(Format from, Format into, long bits) {
        boolean minus = from.isMinus(bits);
        if (from.isNone(bits)) {
            return into.none();
        }
        if (from.isEndless(bits)) {
            return into.endless(minus);
        }
        if (from.isZero(bits)) {
            return into.zero(minus);
        }
        return rounded(into, minus, from.significand(bits), from.power(bits));
    }

    /** The size of a number, endless or not, as a whole one that is not beyond the limit. */
    private long cut(Format format, long bits, long limit) {
        long significand = format.significand(bits);
        int power = format.power(bits);
        long size = moved(significand, power);
        if (power >= LONG_BITS - LEAD_BIT || isBeyond(size, limit)) {
            raise(INVALID);
            return limit;
        }
        if (power < 0 && moved(size, -power) != significand) {
            raise(INEXACT);
        }
        return size;
    }

    /** Both taken without a sign. */
    private static boolean isBeyond(long size, long limit) {
        return (size ^ HIGHEST_BIT) > (limit ^ HIGHEST_BIT);
    }

    /** Moved left, or right where places is below 0. */
    private static long moved(long size, int places) {
        if (places <= -LONG_BITS || places >= LONG_BITS) {
            return 0;
        }
        return places < 0 ? size >>> -places : size << places;
    }

    /** The bits for magnitude * 2 ** power, where magnitude is without a sign and not 0. */
    private long rounded(Format format, boolean minus, long magnitude, int power) {
        long size = magnitude < 0 ? magnitude >>> 1 | magnitude & 1 : magnitude;
        int free = freePlaces(size);
        size <<= free;
        int unit = (magnitude < 0 ? power + 1 : power) - free;
        // what is below the least exponent is cut where the least exponent would cut it
        int exponent = Math.max(unit + TOP_BIT + format.bias, 1);
        if (exponent > 2 * format.bias) {
            return huge(format, minus);
        }
        int places = format.unitPower(exponent) - unit;
        if (places > TOP_BIT + 1) {
            // less than half of the least number: how much less makes no difference
            size = 1;
            places = TOP_BIT + 1;
        }
        long kept = size >>> places;
        long lost = size - (kept << places);
        if (goesAwayFromZero(minus, kept, lost, 1L << (places - 1))) {
            kept++;
        }
        // kept has the leading bit that a part leaves out, so it counts one exponent itself
        long bits = (exponent - 1) * format.leading + kept;
        if (bits >= format.endless) {
            return huge(format, minus);
        }
        if (lost != 0) {
            raise(bits < format.leading ? INEXACT | TINY : INEXACT);
        }
        return format.signed(minus, bits);
    }

    /** How far a size goes left until its highest bit is TOP_BIT. */
    private static int freePlaces(long size) {
        int places = 0;
        for (int step = 32; step > 0; step /= 2) {
            if ((size << places) >>> (TOP_BIT + 1 - step) == 0) {
                places += step;
            }
        }
        return places;
    }

    private boolean goesAwayFromZero(boolean minus, long kept, long lost, long half) {
        switch (currentMode) {
            case NEAREST:
                return lost > half || lost == half && (kept & 1) != 0;
            case TO_ZERO:
                return false;
            case UPWARD:
                return lost != 0 && !minus;
            default:
                return lost != 0 && minus;
        }
    }

    private long huge(Format format, boolean minus) {
        raise(HUGE | INEXACT);
        boolean staysFinite = currentMode == TO_ZERO || currentMode == (minus ? UPWARD : DOWNWARD);
        return staysFinite ? format.greatest(minus) : format.endless(minus);
    }

    /** How the bits of one size are read and made; bits beyond that size are not looked at. */
    private enum Format {
        WIDE(53, 1023, 1L << 63),
        NARROW(24, 127, 1L << 31);

        final int precision;
        final int bias;
        final long sign;
        final long leading;
        final long endless;

        Format(int precision, int bias, long sign) {
            this.precision = precision;
            this.bias = bias;
            this.sign = sign;
            this.leading = 1L << (precision - 1);
            this.endless = (2L * bias + 1) << (precision - 1);
        }

        long own(long bits) {
            return bits & (sign | (sign - 1));
        }

        long size(long bits) {
            return bits & (sign - 1);
        }

        boolean isMinus(long bits) {
            return (bits & sign) != 0;
        }

        boolean isNone(long bits) {
            return size(bits) > endless;
        }

        boolean isEndless(long bits) {
            return size(bits) == endless;
        }

        boolean isZero(long bits) {
            return size(bits) == 0;
        }

        int sort(long bits) {
            if (isNone(bits)) {
                return 0;
            }
            if (isEndless(bits)) {
                return 1;
            }
            if (isZero(bits)) {
                return 4;
            }
            return size(bits) < leading ? 3 : 2;
        }

        /** Greater for the greater of two numbers; the same for both zeros. */
        long rank(long bits) {
            return isMinus(bits) ? -size(bits) : size(bits);
        }

        /** With power: the number's size is significand * 2 ** power, the highest bit LEAD_BIT. */
        long significand(long bits) {
            long plain = plain(bits);
            return plain << lift(plain);
        }

        int power(long bits) {
            int exponent = (int) (size(bits) >>> (precision - 1));
            return unitPower(Math.max(exponent, 1)) - lift(plain(bits));
        }

        /** The power of two that the lowest bit of a part is worth with this exponent. */
        int unitPower(int exponent) {
            return exponent - bias - (precision - 1);
        }

        /** The part with the leading bit that it leaves out. */
        private long plain(long bits) {
            long size = size(bits);
            return size < leading ? size : size & (leading - 1) | leading;
        }

        private static int lift(long plain) {
            return freePlaces(plain) - SPARE;
        }

        long signed(boolean minus, long size) {
            return minus ? size | sign : size;
        }

        long opposite(long bits) {
            return bits ^ sign;
        }

        long zero(boolean minus) {
            return signed(minus, 0);
        }

        long endless(boolean minus) {
            return signed(minus, endless);
        }

        long greatest(boolean minus) {
            return signed(minus, endless - 1);
        }

        long none() {
            return endless | leading >>> 1;
        }
    }
}
