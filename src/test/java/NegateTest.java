/** Promise 12: negate. */
final class NegateTest {
    private static final Checks CHECKS = new Checks("NegateTest");
    private static final Calls CALLS = new Calls(CHECKS);

    public static void main(String[] args) {
        CHECKS.sentence("x with its sign turned", NegateTest::turned);
        CHECKS.sentence("ZERO and ENDLESS, too", NegateTest::zerosAndEndless);
        CHECKS.sentence("NONE is as results are", NegateTest::none);
        CHECKS.sentence("NARROW: the upper 32 bits are 0", NegateTest::upperBits);
        CHECKS.sentence("comes to REGISTER to: its bits", NegateTest::registers);
        CHECKS.sentence("No FLAGS", NegateTest::noFlags);
        CHECKS.finish();
    }

    private static void turned() {
        for (Numbers n : Numbers.values()) {
            for (int mode = 0; mode < 4; mode++) {
                for (long x : n.finite()) {
                    CALLS.negate(n, mode, x, x ^ n.minus);
                }
            }
        }
    }

    private static void zerosAndEndless() {
        for (Numbers n : Numbers.values()) {
            for (int mode = 0; mode < 4; mode++) {
                CALLS.negate(n, mode, 0, n.minus);
                CALLS.negate(n, mode, n.minus, 0);
                CALLS.negate(n, mode, n.endless, n.endless | n.minus);
                CALLS.negate(n, mode, n.endless | n.minus, n.endless);
            }
        }
    }

    private static void none() {
        for (int mode = 0; mode < 4; mode++) {
            for (long none : Numbers.WIDE.nones()) {
                CALLS.negate(Numbers.WIDE, mode, none, 0x7FF8000000000000L);
            }
            for (long none : Numbers.NARROW.nones()) {
                CALLS.negate(Numbers.NARROW, mode, none, 0x7FC00000L);
            }
        }
    }

    private static void upperBits() {
        FloatUnit unit = new FloatUnit();
        for (long upper : new long[] {1L << 32, 1L << 63, -1L << 32}) {
            unit.put(0, upper | Numbers.NARROW.one);
            CHECKS.due("negate", unit.negate(true, 1, 0), 0xBF800000L);
            CHECKS.due("the register", unit.bits(1), 0xBF800000L);
            CHECKS.due("negate back", unit.negate(true, 0, 1), 0x3F800000L);
            unit.put(0, upper | Numbers.NARROW.none);
            CHECKS.due("negate NONE in place", unit.negate(true, 0, 0), 0x7FC00000L);
            CHECKS.due("its register", unit.bits(0), 0x7FC00000L);
            unit.put(0, upper);
            CHECKS.due("negate ZERO", unit.negate(true, 0, 0), 0x80000000L);
        }
    }

    private static void registers() {
        for (int r = 0; r < 16; r++) {
            FloatUnit unit = new FloatUnit();
            int to = (r + 3) % 16;
            unit.put(r, Numbers.WIDE.three);
            long want = Numbers.WIDE.three | Numbers.WIDE.minus;
            CHECKS.due("negate " + r, unit.negate(false, to, r), want);
            for (int other = 0; other < 16; other++) {
                CHECKS.due("bits " + other, unit.bits(other),
                        other == to ? want : other == r ? Numbers.WIDE.three : 0);
            }
            CHECKS.due("in place", unit.negate(false, r, r), want);
            CHECKS.due("bits after it", unit.bits(r), want);
        }
    }

    private static void noFlags() {
        for (Numbers n : Numbers.values()) {
            FloatUnit unit = new FloatUnit();
            for (long x : n.all()) {
                unit.put(1, x);
                unit.negate(n.narrow, 2, 1);
            }
            for (long none : n.nones()) {
                unit.put(1, none);
                unit.negate(n.narrow, 2, 1);
            }
            CHECKS.due("flags", unit.flags(0), 0);
        }
    }
}
