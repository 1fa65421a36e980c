/** Promise 8: of. */
final class OfTest {
    private static final int INEXACT = Calls.INEXACT;

    private static final Checks CHECKS = new Checks("OfTest");
    private static final Calls CALLS = new Calls(CHECKS);

    public static void main(String[] args) {
        CHECKS.sentence("REGISTER to is v: its bits", OfTest::registers);
        CHECKS.sentence("REGISTER to is v: what the FORMAT has is exact", OfTest::exact);
        CHECKS.sentence("v, ROUNDED: below, at and above the half", OfTest::rounded);
        CHECKS.sentence("v, ROUNDED: up to the next exponent", OfTest::carried);
        CHECKS.sentence("the least and the greatest v", OfTest::ends);
        CHECKS.sentence("0: ZERO without minus", OfTest::zero);
        CHECKS.finish();
    }

    private static void registers() {
        for (Numbers n : Numbers.values()) {
            for (int r = 0; r < 16; r++) {
                FloatUnit unit = new FloatUnit();
                unit.put(r, -1);
                CHECKS.due("of to " + r, unit.of(n.narrow, r, -3), n.three | n.minus);
                for (int other = 0; other < 16; other++) {
                    CHECKS.due("bits " + other, unit.bits(other), other == r ? n.three | n.minus : 0);
                }
            }
        }
    }

    private static void both(Numbers n, int mode, long v, long size, int flags) {
        CALLS.of(n, mode, v, size, flags);
        CALLS.of(n, mode == 2 ? 3 : mode == 3 ? 2 : mode, -v, size | n.minus, flags);
    }

    private static void exact() {
        for (Numbers n : Numbers.values()) {
            for (int mode = 0; mode < 4; mode++) {
                for (int power = 0; power < 63; power++) {
                    both(n, mode, 1L << power, n.power(power), 0);
                }
                both(n, mode, 3, n.three, 0);
                int p = n.precision;
                both(n, mode, (1L << p) - 1, n.power(p) - 1, 0);
                both(n, mode, (1L << p) + 2, n.power(p) + 1, 0);
                both(n, mode, (1L << p) - 1 << (63 - p), n.power(63) - 1, 0);
            }
        }
    }

    /** size is the lower neighbour; what mode 0 makes of it is told, the others follow. */
    private static void between(Numbers n, long v, long size, long nearest) {
        both(n, 0, v, nearest, INEXACT);
        both(n, 1, v, size, INEXACT);
        both(n, 2, v, size + 1, INEXACT);
        both(n, 3, v, size, INEXACT);
    }

    private static void rounded() {
        for (Numbers n : Numbers.values()) {
            int p = n.precision;
            long even = n.power(p);
            between(n, (1L << p) + 1, even, even);
            between(n, (1L << p) + 3, even + 1, even + 2);
            long four = n.power(p + 1);
            between(n, (1L << (p + 1)) + 1, four, four);
            between(n, (1L << (p + 1)) + 2, four, four);
            between(n, (1L << (p + 1)) + 3, four, four + 1);
            between(n, (1L << (p + 1)) + 6, four + 1, four + 2);
            between(n, (1L << 62) + 1, n.power(62), n.power(62));
            long half = 1L << (62 - p);
            between(n, (1L << 62) + half - 1, n.power(62), n.power(62));
            between(n, (1L << 62) + half, n.power(62), n.power(62));
            between(n, (1L << 62) + half + 1, n.power(62), n.power(62) + 1);
        }
    }

    private static void carried() {
        for (Numbers n : Numbers.values()) {
            for (int power = n.precision + 1; power < 63; power++) {
                between(n, (1L << power) - 1, n.power(power) - 1, n.power(power));
            }
        }
    }

    private static void ends() {
        for (Numbers n : Numbers.values()) {
            long limit = n.power(63);
            between(n, Long.MAX_VALUE, limit - 1, limit);
            for (int mode = 0; mode < 4; mode++) {
                CALLS.of(n, mode, Long.MIN_VALUE, limit | n.minus, 0);
                boolean away = mode == 0 || mode == 3;
                CALLS.of(n, mode, Long.MIN_VALUE + 1, n.minus | (away ? limit : limit - 1), INEXACT);
            }
        }
    }

    private static void zero() {
        for (Numbers n : Numbers.values()) {
            for (int mode = 0; mode < 4; mode++) {
                CALLS.of(n, mode, 0, 0, 0);
            }
        }
    }
}
