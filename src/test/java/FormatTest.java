/** The terms of the document that say what registers and the bits of both formats are. */
final class FormatTest {
    private static final Checks CHECKS = new Checks("FormatTest");
    private static final Calls CALLS = new Calls(CHECKS);

    /** What may stand above a NARROW number. */
    private static final long[] UPPER = {1L << 32, 1L << 63, 0x7FF00000L << 32, -1L << 32};

    public static void main(String[] args) {
        CHECKS.sentence("A REGISTER (0..15) has 64 bits", FormatTest::registers);
        CHECKS.sentence("WIDE: all 64: a sign (the highest bit: 1 is minus), 11 bits, 52",
                FormatTest::wide);
        CHECKS.sentence("NARROW: the lowest 32: a sign, 8, 23", FormatTest::narrow);
        CHECKS.sentence("NARROW: the others are not looked at: work", FormatTest::upperOfWork);
        CHECKS.sentence("NARROW: the others are not looked at: other calls",
                FormatTest::upperOfOtherCalls);
        CHECKS.sentence("NARROW: the others are 0 in results", FormatTest::upperOfResults);
        CHECKS.sentence("x from 1 to 2 * B: 2 ** (x - B)", FormatTest::exponents);
        CHECKS.sentence("x from 1 to 2 * B: 1 + f / 2 ** (p - 1)", FormatTest::parts);
        CHECKS.sentence("x 0: f / 2 ** (p - 1) * 2 ** (1 - B)", FormatTest::smallOnes);
        CHECKS.sentence("x 0, f 0: ZERO, with its sign", FormatTest::zeros);
        CHECKS.sentence("x 2 * B + 1: f 0: ENDLESS (with its sign)", FormatTest::endless);
        CHECKS.sentence("x 2 * B + 1: else NONE (any sign)", FormatTest::none);
        CHECKS.sentence("Results that are NONE have sign 0 and just the highest bit of f",
                FormatTest::noneResults);
        CHECKS.finish();
    }

    private static void registers() {
        for (int r = 0; r < 16; r++) {
            FloatUnit unit = new FloatUnit();
            for (int bit = 0; bit < 64; bit++) {
                unit.put(r, 1L << bit);
                CHECKS.due("bit " + bit + " of register " + r, unit.bits(r), 1L << bit);
            }
            unit.put(r, -1);
            for (int other = 0; other < 16; other++) {
                CHECKS.due("register " + other, unit.bits(other), other == r ? -1 : 0);
            }
        }
        FloatUnit unit = new FloatUnit();
        CHECKS.refused("bits -1", () -> unit.bits(-1));
        CHECKS.refused("bits 16", () -> unit.bits(16));
    }

    private static void wide() {
        Numbers n = Numbers.WIDE;
        CALLS.whole(n, 0x4008000000000000L, false, 3, 0);
        CALLS.whole(n, 0xC008000000000000L, false, -3, 0);
        CALLS.whole(n, 0x4330000000000001L, false, (1L << 52) + 1, 0);
        CALLS.whole(n, 0x433FFFFFFFFFFFFFL, false, (1L << 53) - 1, 0);
        CALLS.compare(n, 0x3FF0000000000001L, 0x3FF0000000000000L, 9, 1);
        CALLS.compare(n, 0x3FF0000100000000L, 0x3FF0000000000000L, 9, 1);
        CALLS.kind(n, 0x7FE0000000000000L, 2);
        CALLS.kind(n, 0x0010000000000000L, 2);
        CALLS.kind(n, 0x000FFFFFFFFFFFFFL, 3);
        CALLS.kind(n, 0x000000007F800000L, 3);
    }

    private static void narrow() {
        Numbers n = Numbers.NARROW;
        CALLS.whole(n, 0x40400000L, false, 3, 0);
        CALLS.whole(n, 0xC0400000L, false, -3, 0);
        CALLS.whole(n, 0x4B000001L, false, (1L << 23) + 1, 0);
        CALLS.whole(n, 0x4B7FFFFFL, false, (1L << 24) - 1, 0);
        CALLS.compare(n, 0x3F800001L, 0x3F800000L, 9, 1);
        CALLS.kind(n, 0x7F000000L, 2);
        CALLS.kind(n, 0x00800000L, 2);
        CALLS.kind(n, 0x007FFFFFL, 3);
    }

    private static FloatUnit holding(int mode, long x, long y) {
        FloatUnit unit = new FloatUnit();
        unit.mode(mode);
        unit.put(1, x);
        unit.put(2, y);
        return unit;
    }

    private static void upperOfWork() {
        Numbers n = Numbers.NARROW;
        for (int op = FloatUnit.ADD; op <= FloatUnit.REST; op++) {
            for (long x : n.all()) {
                for (long y : n.all()) {
                    FloatUnit plain = holding(0, x, y);
                    long want = plain.work(op, true, 3, 1, 2);
                    int flags = plain.flags(0);
                    for (long upper : UPPER) {
                        sameWork(op, x | upper, y, want, flags);
                        sameWork(op, x, y | upper, want, flags);
                    }
                }
            }
        }
    }

    private static void sameWork(int op, long x, long y, long want, int flags) {
        FloatUnit unit = holding(0, x, y);
        String text = "op " + op + " of 0x" + Long.toHexString(x) + ", 0x" + Long.toHexString(y);
        CHECKS.due(text, unit.work(op, true, 3, 1, 2), want);
        CHECKS.due(text + ": flags", unit.flags(0), flags);
    }

    private static void upperOfOtherCalls() {
        Numbers n = Numbers.NARROW;
        FloatUnit unit = new FloatUnit();
        for (long upper : UPPER) {
            for (long x : n.all()) {
                unit = holding(0, x, x | upper);
                String text = "of 0x" + Long.toHexString(x | upper);
                CHECKS.due("compare " + text, unit.compare(true, 1, 2, 9), 0);
                CHECKS.due("compare with " + text, unit.compare(true, 2, 1, 9), 0);
                CHECKS.due("kind " + text, unit.kind(true, 2), unit.kind(true, 1));
                CHECKS.due("turn " + text, unit.turn(true, 3, 2), unit.turn(true, 3, 1));
                CHECKS.due("negate " + text, unit.negate(true, 3, 2), unit.negate(true, 3, 1));
                for (boolean half : new boolean[] {false, true}) {
                    unit.flags(-1);
                    long want = unit.whole(true, 1, half);
                    int flags = unit.flags(-1);
                    CHECKS.due("whole " + text, unit.whole(true, 2, half), want);
                    CHECKS.due("whole's flags " + text, unit.flags(-1), flags);
                }
            }
        }
    }

    private static void upperOfResults() {
        Numbers n = Numbers.NARROW;
        for (long x : n.all()) {
            for (long y : n.all()) {
                for (int op = FloatUnit.ADD; op <= FloatUnit.REST; op++) {
                    FloatUnit unit = Calls.unit(n, 0, x, y);
                    emptyAbove("op " + op, unit, unit.work(op, true, 3, 1, 2));
                }
            }
            FloatUnit unit = Calls.unit(n, 0, x, x);
            emptyAbove("negate", unit, unit.negate(true, 3, 1));
            emptyAbove("negate in place", unit, unit.negate(true, 1, 1) | unit.bits(1));
        }
        for (long v : new long[] {0, 1, -1, Long.MAX_VALUE, Long.MIN_VALUE}) {
            FloatUnit unit = Calls.unit(n, 0, 0, 0);
            emptyAbove("of " + v, unit, unit.of(true, 3, v));
        }
        for (long x : Numbers.WIDE.all()) {
            FloatUnit unit = Calls.unit(Numbers.WIDE, 0, x, 0);
            emptyAbove("turn", unit, unit.turn(false, 3, 1));
        }
    }

    private static void emptyAbove(String call, FloatUnit unit, long answer) {
        CHECKS.due(call + ": upper bits of the answer", answer >>> 32, 0);
        CHECKS.due(call + ": upper bits of the register", unit.bits(3) >>> 32, 0);
    }

    private static void exponents() {
        for (Numbers n : Numbers.values()) {
            CALLS.of(n, 0, 1, (long) n.bias << (n.precision - 1), 0);
            for (long x = 1; x < 2L * n.bias; x++) {
                long bits = x << (n.precision - 1);
                CALLS.work(n, FloatUnit.ADD, 0, bits, bits, (x + 1) << (n.precision - 1), 0);
            }
            CALLS.always(n, FloatUnit.MULTIPLY, n.power(1 - n.bias), n.power(n.bias - 1), n.one, 0);
            CALLS.always(n, FloatUnit.DIVIDE, n.power(n.bias), n.power(n.bias - 1), n.two, 0);
        }
    }

    private static void parts() {
        for (Numbers n : Numbers.values()) {
            int p = n.precision;
            for (long f : new long[] {0, 1, 2, 1L << (p - 2), (1L << (p - 1)) - 1}) {
                CALLS.of(n, 0, (1L << (p - 1)) + f, n.power(p - 1) + f, 0);
                CALLS.whole(n, n.power(p - 1) + f, false, (1L << (p - 1)) + f, 0);
                CALLS.always(n, FloatUnit.MULTIPLY, n.leastUsual + f, n.power(n.bias - 1),
                        n.one + f, 0);
                CALLS.always(n, FloatUnit.DIVIDE, n.power(n.bias) + f, n.power(n.bias),
                        n.one + f, 0);
            }
        }
    }

    private static void smallOnes() {
        for (Numbers n : Numbers.values()) {
            int p = n.precision;
            CALLS.always(n, FloatUnit.MULTIPLY, n.least, n.power(p - 1), n.leastUsual, 0);
            CALLS.always(n, FloatUnit.DIVIDE, n.leastUsual, n.power(p - 1), n.least, 0);
            CALLS.always(n, FloatUnit.ADD, n.greatestSmall, n.least, n.leastUsual, 0);
            CALLS.always(n, FloatUnit.SUBTRACT, n.leastUsual, n.least, n.greatestSmall, 0);
            for (long f : new long[] {1, 2, 3, 1L << (p - 2), n.greatestSmall}) {
                FloatUnit unit = new FloatUnit();
                long whole = unit.of(n.narrow, 0, f);
                CALLS.always(n, FloatUnit.MULTIPLY, whole, n.least, f, 0);
                CALLS.always(n, FloatUnit.DIVIDE, f, n.least, whole, 0);
            }
        }
        CALLS.turn(Numbers.NARROW, 0, 1, 0x36A0000000000000L, 0);
        CALLS.turn(Numbers.NARROW, 0, 0x007FFFFFL, 0x380FFFFFC0000000L, 0);
    }

    private static void zeros() {
        for (Numbers n : Numbers.values()) {
            CALLS.kind(n, 0, 4);
            CALLS.kind(n, n.minus, 12);
            CALLS.kind(n, n.least, 3);
            CALLS.whole(n, 0, false, 0, 0);
            CALLS.whole(n, n.minus, false, 0, 0);
            for (long x : n.finite()) {
                CALLS.always(n, FloatUnit.ADD, x, 0, x, 0);
                CALLS.always(n, FloatUnit.ADD, n.minus, x, x, 0);
            }
        }
    }

    private static void endless() {
        for (Numbers n : Numbers.values()) {
            CALLS.kind(n, n.endless, 1);
            CALLS.kind(n, n.endless | n.minus, 9);
            CALLS.kind(n, n.endless - 1, 2);
            CALLS.compare(n, n.endless, n.greatest, 9, 1);
            CALLS.compare(n, n.endless | n.minus, n.greatest | n.minus, 9, -1);
            CALLS.compare(n, n.endless, n.endless, 9, 0);
        }
    }

    private static void none() {
        for (Numbers n : Numbers.values()) {
            for (long none : n.nones()) {
                CALLS.kind(n, none, n.isMinus(none) ? 8 : 0);
                CALLS.compare(n, none, none, 9, 9);
            }
            for (int bit = 0; bit < n.precision - 1; bit++) {
                CALLS.kind(n, n.endless | 1L << bit, 0);
                CALLS.kind(n, n.endless | 1L << bit | n.minus, 8);
            }
        }
    }

    private static void noneResults() {
        CALLS.always(Numbers.WIDE, FloatUnit.DIVIDE, 0, 0, 0x7FF8000000000000L, Calls.INVALID);
        CALLS.always(Numbers.NARROW, FloatUnit.DIVIDE, 0, 0, 0x7FC00000L, Calls.INVALID);
        for (Numbers n : Numbers.values()) {
            Numbers other = n.narrow ? Numbers.WIDE : Numbers.NARROW;
            CALLS.always(n, FloatUnit.ADD, n.endless | n.minus, n.endless, n.none, Calls.INVALID);
            CALLS.always(n, FloatUnit.SUBTRACT, n.endless | n.minus, n.endless | n.minus, n.none,
                    Calls.INVALID);
            CALLS.always(n, FloatUnit.MULTIPLY, n.minus, n.endless, n.none, Calls.INVALID);
            CALLS.always(n, FloatUnit.REST, n.one | n.minus, 0, n.none, Calls.INVALID);
            for (long none : n.nones()) {
                for (int op = FloatUnit.ADD; op <= FloatUnit.REST; op++) {
                    CALLS.always(n, op, none, n.one, n.none, 0);
                    CALLS.always(n, op, n.one, none, n.none, 0);
                    CALLS.always(n, op, none, none, n.none, 0);
                }
                CALLS.turn(n, 0, none, other.none, 0);
                CALLS.negate(n, 0, none, n.none);
            }
        }
    }
}
