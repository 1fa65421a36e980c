/** Promise 10: turn. */
final class TurnTest {
    private static final int INEXACT = Calls.INEXACT, TINY = Calls.TINY, HUGE = Calls.HUGE;
    private static final Numbers WIDE = Numbers.WIDE, NARROW = Numbers.NARROW;

    private static final Checks CHECKS = new Checks("TurnTest");
    private static final Calls CALLS = new Calls(CHECKS);

    public static void main(String[] args) {
        CHECKS.sentence("x of the one FORMAT (narrow) in the other one", TurnTest::bothWays);
        CHECKS.sentence("REGISTER to is x: its bits", TurnTest::registers);
        CHECKS.sentence("all of NARROW is in WIDE, without a FLAG", TurnTest::narrowInWide);
        CHECKS.sentence("ROUNDED: usual ones", TurnTest::rounded);
        CHECKS.sentence("ROUNDED: too large for NARROW", TurnTest::tooLarge);
        CHECKS.sentence("ROUNDED: too small for NARROW", TurnTest::tooSmall);
        CHECKS.sentence("ROUNDED: at the least of NARROW with x 1", TurnTest::leastUsual);
        CHECKS.sentence("NONE is NONE", TurnTest::none);
        CHECKS.sentence("ENDLESS with its sign", TurnTest::endless);
        CHECKS.sentence("ZERO with its sign", TurnTest::zeros);
        CHECKS.finish();
    }

    /** The same number in both formats, with both signs and in all modes. */
    private static void same(long wide, long narrow) {
        for (int mode = 0; mode < 4; mode++) {
            for (boolean minus : new boolean[] {false, true}) {
                CALLS.turn(WIDE, mode, WIDE.signed(minus, wide), NARROW.signed(minus, narrow), 0);
                CALLS.turn(NARROW, mode, NARROW.signed(minus, narrow), WIDE.signed(minus, wide), 0);
            }
        }
    }

    private static void bothWays() {
        same(0x3FF0000000000000L, 0x3F800000L);
        same(0x4008000000000000L, 0x40400000L);
        same(0x3FF0000020000000L, 0x3F800001L);
        same(0x47EFFFFFE0000000L, 0x7F7FFFFFL);
        same(0x3810000000000000L, 0x00800000L);
        same(0x380FFFFFC0000000L, 0x007FFFFFL);
        same(0x36A0000000000000L, 0x00000001L);
    }

    private static void registers() {
        for (int r = 0; r < 16; r++) {
            FloatUnit unit = new FloatUnit();
            int to = (r + 5) % 16;
            unit.put(r, WIDE.three);
            CHECKS.due("turn " + r, unit.turn(false, to, r), NARROW.three);
            for (int other = 0; other < 16; other++) {
                CHECKS.due("bits " + other, unit.bits(other),
                        other == to ? NARROW.three : other == r ? WIDE.three : 0);
            }
            CHECKS.due("in place", unit.turn(false, r, r), NARROW.three);
            CHECKS.due("and back", unit.turn(true, r, r), WIDE.three);
            CHECKS.due("bits after it", unit.bits(r), WIDE.three);
        }
    }

    private static void narrowInWide() {
        for (int power = 1 - NARROW.bias; power <= NARROW.bias; power++) {
            same(WIDE.power(power), NARROW.power(power));
            same(WIDE.power(power) | (1L << 52) - (1L << 29), NARROW.power(power) | (1L << 23) - 1);
        }
        for (int bit = 0; bit < 23; bit++) {
            same(WIDE.power(bit - 149), 1L << bit);
        }
    }

    /** lower is the size below; what mode 0 makes of it is told, the others follow. */
    private static void between(long wide, long lower, long nearest) {
        for (int mode = 0; mode < 4; mode++) {
            for (boolean minus : new boolean[] {false, true}) {
                boolean away = mode == (minus ? 3 : 2);
                long size = mode == 0 ? nearest : away ? lower + 1 : lower;
                int flags = size < NARROW.leastUsual ? INEXACT | TINY : INEXACT;
                CALLS.turn(WIDE, mode, WIDE.signed(minus, wide), NARROW.signed(minus, size), flags);
            }
        }
    }

    private static void rounded() {
        long one = NARROW.one;
        between(0x3FF0000000000001L, one, one);
        between(0x3FF000000FFFFFFFL, one, one);
        between(0x3FF0000010000000L, one, one);
        between(0x3FF0000010000001L, one, one + 1);
        between(0x3FF0000030000000L, one + 1, one + 2);
        between(0x3FFFFFFFF0000000L, NARROW.two - 1, NARROW.two);
        between(0x3FFFFFFFEFFFFFFFL, NARROW.two - 1, NARROW.two - 1);
        between(0x47EFFFFFDFFFFFFFL, NARROW.greatest - 1, NARROW.greatest);
    }

    private static void tooLarge() {
        long[] sizes = {WIDE.greatest, WIDE.power(1023), WIDE.power(129), WIDE.power(128) + 1,
            WIDE.power(128)};
        for (int mode = 0; mode < 4; mode++) {
            for (boolean minus : new boolean[] {false, true}) {
                boolean finite = mode == 1 || mode == (minus ? 2 : 3);
                long most = NARROW.signed(minus, finite ? NARROW.greatest : NARROW.endless);
                for (long x : sizes) {
                    CALLS.turn(WIDE, mode, WIDE.signed(minus, x), most, HUGE | INEXACT);
                }
                // the middle between the greatest and 2 ** 128
                CALLS.turn(WIDE, mode, WIDE.signed(minus, 0x47EFFFFFF0000000L), most,
                        finite ? INEXACT : HUGE | INEXACT);
                boolean near = finite || mode == 0;
                CALLS.turn(WIDE, mode, WIDE.signed(minus, 0x47EFFFFFEFFFFFFFL),
                        NARROW.signed(minus, near ? NARROW.greatest : NARROW.endless),
                        near ? INEXACT : HUGE | INEXACT);
            }
        }
    }

    private static void tooSmall() {
        between(WIDE.least, 0, 0);
        between(WIDE.greatestSmall, 0, 0);
        between(WIDE.leastUsual, 0, 0);
        between(WIDE.power(-214), 0, 0);
        between(WIDE.power(-151), 0, 0);
        between(WIDE.power(-150) - 1, 0, 0);
        between(WIDE.power(-150), 0, 0);
        between(WIDE.power(-150) + 1, 0, 1);
        between(WIDE.power(-149) - 1, 0, 1);
        between(WIDE.power(-149) + 1, 1, 1);
        between(0x36A8000000000000L, 1, 2);
        between(0x36B4000000000000L, 2, 2);
    }

    private static void leastUsual() {
        long small = NARROW.greatestSmall;
        between(0x380FFFFFC0000001L, small, small);
        between(0x380FFFFFDFFFFFFFL, small, small);
        between(0x380FFFFFE0000000L, small, NARROW.leastUsual);
        between(0x380FFFFFFFFFFFFFL, small, NARROW.leastUsual);
        between(0x3810000000000001L, NARROW.leastUsual, NARROW.leastUsual);
    }

    private static void none() {
        for (int mode = 0; mode < 4; mode++) {
            for (long none : WIDE.nones()) {
                CALLS.turn(WIDE, mode, none, 0x7FC00000L, 0);
            }
            for (long none : NARROW.nones()) {
                CALLS.turn(NARROW, mode, none, 0x7FF8000000000000L, 0);
            }
        }
    }

    private static void endless() {
        same(0x7FF0000000000000L, 0x7F800000L);
    }

    private static void zeros() {
        same(0, 0);
    }
}
