/** Promise 9: whole. */
final class WholeTest {
    private static final int INEXACT = Calls.INEXACT, INVALID = Calls.INVALID;
    private static final Numbers WIDE = Numbers.WIDE, NARROW = Numbers.NARROW;

    private static final Checks CHECKS = new Checks("WholeTest");
    private static final Calls CALLS = new Calls(CHECKS);

    public static void main(String[] args) {
        CHECKS.sentence("The whole number of 64 bits, with sign, that x is", WholeTest::exact);
        CHECKS.sentence("half: 32", WholeTest::exactHalf);
        CHECKS.sentence("cut (whatever the MODE): INEXACT if that is another one", WholeTest::cut);
        CHECKS.sentence("cut to 0", WholeTest::cutToNothing);
        CHECKS.sentence("ZERO is 0, without a FLAG", WholeTest::zeros);
        CHECKS.sentence("too large ones: the nearest: the greatest of 64 bits", WholeTest::above);
        CHECKS.sentence("too large ones: the nearest: the least of 64 bits", WholeTest::below);
        CHECKS.sentence("too large ones: the nearest: the greatest of 32 bits", WholeTest::aboveHalf);
        CHECKS.sentence("too large ones: the nearest: the least of 32 bits", WholeTest::belowHalf);
        CHECKS.sentence("too large ones, with every exponent", WholeTest::everyExponent);
        CHECKS.sentence("ENDLESS: the nearest one that there is", WholeTest::endless);
        CHECKS.sentence("NONE 0", WholeTest::none);
        CHECKS.sentence("INVALID each, alone", WholeTest::alone);
        CHECKS.finish();
    }

    private static void bothSizes(Numbers n, long x, long want, int flags) {
        CALLS.whole(n, x, false, want, flags);
        CALLS.whole(n, x, true, want, flags);
    }

    private static void exact() {
        for (Numbers n : Numbers.values()) {
            for (int power = 0; power < 63; power++) {
                CALLS.whole(n, n.power(power), false, 1L << power, 0);
                CALLS.whole(n, n.power(power) | n.minus, false, -(1L << power), 0);
            }
            CALLS.whole(n, n.three, false, 3, 0);
            CALLS.whole(n, n.three | n.minus, false, -3, 0);
        }
        CALLS.whole(WIDE, 0x433FFFFFFFFFFFFFL, false, (1L << 53) - 1, 0);
        CALLS.whole(WIDE, 0x4340000000000001L, false, (1L << 53) + 2, 0);
        CALLS.whole(NARROW, 0x4B7FFFFFL, false, (1L << 24) - 1, 0);
        CALLS.whole(NARROW, 0x4B800001L, false, (1L << 24) + 2, 0);
    }

    private static void exactHalf() {
        for (Numbers n : Numbers.values()) {
            for (int power = 0; power < 31; power++) {
                CALLS.whole(n, n.power(power), true, 1L << power, 0);
                CALLS.whole(n, n.power(power) | n.minus, true, -(1L << power), 0);
            }
            CALLS.whole(n, n.three, true, 3, 0);
            CALLS.whole(n, n.three | n.minus, true, -3, 0);
        }
    }

    private static void cut() {
        for (Numbers n : Numbers.values()) {
            long oneAndHalf = n.one | 1L << (n.precision - 2);
            for (boolean minus : new boolean[] {false, true}) {
                int sign = minus ? -1 : 1;
                bothSizes(n, n.signed(minus, n.one + 1), sign, INEXACT);
                bothSizes(n, n.signed(minus, oneAndHalf), sign, INEXACT);
                bothSizes(n, n.signed(minus, n.two - 1), sign, INEXACT);
                bothSizes(n, n.signed(minus, n.two), 2 * sign, 0);
                bothSizes(n, n.signed(minus, n.two + 1), 2 * sign, INEXACT);
                bothSizes(n, n.signed(minus, n.power(2) - 1), 3 * sign, INEXACT);
                // the last exponent with a half behind the point
                long last = (1L << (n.precision - 1)) - 1;
                CALLS.whole(n, n.signed(minus, n.power(n.precision - 1) - 1), false, last * sign,
                        INEXACT);
                CALLS.whole(n, n.signed(minus, n.power(n.precision - 1) - 2), false, last * sign, 0);
            }
        }
    }

    private static void cutToNothing() {
        for (Numbers n : Numbers.values()) {
            long[] sizes = {n.least, n.greatestSmall, n.leastUsual, n.power(-65), n.power(-64),
                n.power(-63), n.power(-33), n.power(-32), n.power(-n.precision), n.quarter,
                n.half - 1, n.half, n.half + 1, n.one - 1};
            for (long x : n.withBothSigns(sizes)) {
                bothSizes(n, x, 0, INEXACT);
            }
        }
    }

    private static void zeros() {
        for (Numbers n : Numbers.values()) {
            bothSizes(n, 0, 0, 0);
            bothSizes(n, n.minus, 0, 0);
        }
    }

    private static void above() {
        CALLS.whole(WIDE, WIDE.power(63) - 1, false, Long.MAX_VALUE - 1023, 0);
        CALLS.whole(NARROW, NARROW.power(63) - 1, false, Long.MAX_VALUE - ((1L << 39) - 1), 0);
        for (Numbers n : Numbers.values()) {
            CALLS.whole(n, n.power(63), false, Long.MAX_VALUE, INVALID);
            CALLS.whole(n, n.power(63) + 1, false, Long.MAX_VALUE, INVALID);
            CALLS.whole(n, n.power(64) - 1, false, Long.MAX_VALUE, INVALID);
            CALLS.whole(n, n.power(64), false, Long.MAX_VALUE, INVALID);
            CALLS.whole(n, n.power(64) + 1, false, Long.MAX_VALUE, INVALID);
            CALLS.whole(n, n.greatest, false, Long.MAX_VALUE, INVALID);
        }
    }

    private static void below() {
        CALLS.whole(WIDE, WIDE.power(63) - 1 | WIDE.minus, false, Long.MIN_VALUE + 1024, 0);
        CALLS.whole(NARROW, NARROW.power(63) - 1 | NARROW.minus, false,
                Long.MIN_VALUE + (1L << 39), 0);
        for (Numbers n : Numbers.values()) {
            CALLS.whole(n, n.power(63) | n.minus, false, Long.MIN_VALUE, 0);
            CALLS.whole(n, n.power(63) + 1 | n.minus, false, Long.MIN_VALUE, INVALID);
            CALLS.whole(n, n.power(64) | n.minus, false, Long.MIN_VALUE, INVALID);
            CALLS.whole(n, n.power(64) + 1 | n.minus, false, Long.MIN_VALUE, INVALID);
            CALLS.whole(n, n.greatest | n.minus, false, Long.MIN_VALUE, INVALID);
        }
    }

    private static void aboveHalf() {
        int most = Integer.MAX_VALUE;
        CALLS.whole(WIDE, wide(2147483646.0), true, most - 1, 0);
        CALLS.whole(WIDE, wide(2147483646.75), true, most - 1, INEXACT);
        CALLS.whole(WIDE, wide(2147483647.0), true, most, 0);
        CALLS.whole(WIDE, wide(2147483647.5), true, most, INEXACT);
        CALLS.whole(WIDE, WIDE.power(31) - 1, true, most, INEXACT);
        CALLS.whole(WIDE, wide(4294967296.0), true, most, INVALID);
        CALLS.whole(WIDE, wide(4294967301.0), true, most, INVALID);
        CALLS.whole(NARROW, NARROW.power(31) - 1, true, most - 127, 0);
        for (Numbers n : Numbers.values()) {
            CALLS.whole(n, n.power(31), true, most, INVALID);
            CALLS.whole(n, n.power(31), false, 1L << 31, 0);
            CALLS.whole(n, n.power(32), true, most, INVALID);
            CALLS.whole(n, n.power(63), true, most, INVALID);
            CALLS.whole(n, n.power(64), true, most, INVALID);
            CALLS.whole(n, n.greatest, true, most, INVALID);
        }
    }

    private static void belowHalf() {
        int least = Integer.MIN_VALUE;
        CALLS.whole(WIDE, wide(-2147483647.0), true, least + 1, 0);
        CALLS.whole(WIDE, wide(-2147483647.5), true, least + 1, INEXACT);
        CALLS.whole(WIDE, wide(-2147483648.5), true, least, INEXACT);
        CALLS.whole(WIDE, wide(-2147483649.0) - 1, true, least, INEXACT);
        CALLS.whole(WIDE, wide(-2147483649.0), true, least, INVALID);
        CALLS.whole(WIDE, wide(-4294967301.0), true, least, INVALID);
        CALLS.whole(NARROW, NARROW.power(31) - 1 | NARROW.minus, true, least + 128, 0);
        CALLS.whole(NARROW, NARROW.power(31) + 1 | NARROW.minus, true, least, INVALID);
        for (Numbers n : Numbers.values()) {
            CALLS.whole(n, n.power(31) | n.minus, true, least, 0);
            CALLS.whole(n, n.power(32) | n.minus, true, least, INVALID);
            CALLS.whole(n, n.power(32) | n.minus, false, -(1L << 32), 0);
            CALLS.whole(n, n.power(63) | n.minus, true, least, INVALID);
            CALLS.whole(n, n.power(64) | n.minus, true, least, INVALID);
            CALLS.whole(n, n.greatest | n.minus, true, least, INVALID);
        }
    }

    private static long wide(double value) {
        return Double.doubleToLongBits(value);
    }

    private static void everyExponent() {
        for (Numbers n : Numbers.values()) {
            for (int power = 32; power <= n.bias; power++) {
                CALLS.whole(n, n.power(power) + 3, true, Integer.MAX_VALUE, INVALID);
                CALLS.whole(n, n.power(power) + 3 | n.minus, true, Integer.MIN_VALUE, INVALID);
            }
            for (int power = 63; power <= n.bias; power++) {
                CALLS.whole(n, n.power(power) + 3, false, Long.MAX_VALUE, INVALID);
                CALLS.whole(n, n.power(power) + 3 | n.minus, false, Long.MIN_VALUE, INVALID);
            }
        }
    }

    private static void endless() {
        for (Numbers n : Numbers.values()) {
            CALLS.whole(n, n.endless, false, Long.MAX_VALUE, INVALID);
            CALLS.whole(n, n.endless | n.minus, false, Long.MIN_VALUE, INVALID);
            CALLS.whole(n, n.endless, true, Integer.MAX_VALUE, INVALID);
            CALLS.whole(n, n.endless | n.minus, true, Integer.MIN_VALUE, INVALID);
        }
    }

    private static void none() {
        for (Numbers n : Numbers.values()) {
            for (long none : n.nones()) {
                bothSizes(n, none, 0, INVALID);
            }
        }
    }

    /** Not even INEXACT for what has something behind the point, too. */
    private static void alone() {
        CALLS.whole(WIDE, wide(2147483648.5), true, Integer.MAX_VALUE, INVALID);
        CALLS.whole(WIDE, wide(-2147483649.5), true, Integer.MIN_VALUE, INVALID);
        CALLS.whole(WIDE, wide(4294967296.25), true, Integer.MAX_VALUE, INVALID);
        FloatUnit unit = new FloatUnit();
        unit.put(1, WIDE.none);
        unit.put(2, WIDE.endless);
        unit.put(3, WIDE.greatest);
        unit.put(4, WIDE.half);
        for (int x = 1; x <= 3; x++) {
            for (boolean half : new boolean[] {false, true}) {
                unit.whole(false, x, half);
                CHECKS.due("flags of whole " + x, unit.flags(-1), INVALID);
                unit.whole(false, 4, half);
                unit.whole(false, x, half);
                CHECKS.due("INEXACT was there", unit.flags(-1), INVALID | INEXACT);
            }
        }
    }
}
