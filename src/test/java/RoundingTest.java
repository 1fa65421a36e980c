import java.util.ArrayList;
import java.util.List;

/** The terms of the document that say how an exact number is rounded, and with which flags. */
final class RoundingTest {
    private static final int BELOW = -1, HALF = 0, ABOVE = 1;
    private static final int INEXACT = Calls.INEXACT, TINY = Calls.TINY, HUGE = Calls.HUGE;

    private static final Checks CHECKS = new Checks("RoundingTest");
    private static final Calls CALLS = new Calls(CHECKS);

    /** The exact size is between lower and lower + 1, at this place from the middle of them. */
    private record Case(Numbers n, int op, long x, long y, long lower, int place) {
        /** With a result of that sign. */
        void due(int mode, boolean minus, long size) {
            boolean both = op == FloatUnit.ADD || op == FloatUnit.SUBTRACT;
            int flags = size < n.leastUsual ? INEXACT | TINY : INEXACT;
            CALLS.work(n, op, mode, n.signed(minus, x), n.signed(minus && both, y),
                    n.signed(minus, size), flags);
        }

        long even() {
            return lower + (lower & 1);
        }
    }

    public static void main(String[] args) {
        CHECKS.sentence("MODE 0: the nearest one", RoundingTest::nearest);
        CHECKS.sentence("MODE 0: of two the one with the lowest bit of f 0", RoundingTest::halves);
        CHECKS.sentence("MODE 1: the nearest one that is not further from 0", RoundingTest::toZero);
        CHECKS.sentence("MODE 2: the least that is not below it", RoundingTest::upward);
        CHECKS.sentence("MODE 3: the greatest that is not above it", RoundingTest::downward);
        CHECKS.sentence("beyond 2 ** (B + 1) in size: HUGE and INEXACT: MODE 0: ENDLESS",
                () -> beyond(0));
        CHECKS.sentence("beyond 2 ** (B + 1) in size: in MODE 1 the greatest finite one",
                () -> beyond(1));
        CHECKS.sentence("beyond 2 ** (B + 1) in size: in MODE 2 for those below 0 the greatest",
                () -> beyond(2));
        CHECKS.sentence("beyond 2 ** (B + 1) in size: in MODE 3 for those above 0 the greatest",
                () -> beyond(3));
        CHECKS.sentence("or that: what is 2 ** (B + 1) is HUGE", RoundingTest::exactlyTheLimit);
        CHECKS.sentence("or that: what becomes 2 ** (B + 1) is HUGE", RoundingTest::upToTheLimit);
        CHECKS.sentence("as if the exponents had no upper end: what stays below is not HUGE",
                RoundingTest::belowTheLimit);
        CHECKS.sentence("another number than the exact one: INEXACT", RoundingTest::exact);
        CHECKS.sentence("and TINY if x is 0 then", RoundingTest::tiny);
        CHECKS.sentence("x is 0 then: not if it became the least with x 1",
                RoundingTest::upToTheLeastUsual);
        CHECKS.sentence("TINY is for another number than the exact one alone",
                RoundingTest::exactAndSmall);
        CHECKS.sentence("also for a result ZERO, which has the sign of the exact one",
                RoundingTest::toNothing);
        CHECKS.finish();
    }

    private static List<Case> cases() {
        List<Case> cases = new ArrayList<>();
        for (Numbers n : Numbers.values()) {
            sums(n, cases);
            productsAndQuotients(n, cases);
            smallOnes(n, cases);
        }
        cases.add(new Case(Numbers.WIDE, FloatUnit.DIVIDE, Numbers.WIDE.one, Numbers.WIDE.three,
                0x3FD5555555555555L, BELOW));
        cases.add(new Case(Numbers.NARROW, FloatUnit.DIVIDE, Numbers.NARROW.one,
                Numbers.NARROW.three, 0x3EAAAAAAL, ABOVE));
        return cases;
    }

    private static void sums(Numbers n, List<Case> cases) {
        int add = FloatUnit.ADD;
        int subtract = FloatUnit.SUBTRACT;
        long halfUnit = n.power(-n.precision);
        cases.add(new Case(n, add, n.one, n.power(-n.precision - 1), n.one, BELOW));
        cases.add(new Case(n, add, n.one, halfUnit - 1, n.one, BELOW));
        cases.add(new Case(n, add, n.one, halfUnit, n.one, HALF));
        cases.add(new Case(n, add, n.one, halfUnit + 1, n.one, ABOVE));
        cases.add(new Case(n, add, n.one + 1, halfUnit, n.one + 1, HALF));
        cases.add(new Case(n, add, n.one, n.least, n.one, BELOW));
        cases.add(new Case(n, add, n.least, n.greatest - 1, n.greatest - 1, BELOW));
        cases.add(new Case(n, add, n.two - 1, halfUnit, n.two - 1, HALF));
        cases.add(new Case(n, subtract, n.two, halfUnit, n.two - 1, HALF));
        cases.add(new Case(n, subtract, n.two, halfUnit + 1, n.two - 1, BELOW));
        cases.add(new Case(n, subtract, n.two, halfUnit - 1, n.two - 1, ABOVE));
        cases.add(new Case(n, subtract, n.two, n.least, n.two - 1, ABOVE));
        cases.add(new Case(n, subtract, n.greatest, n.leastUsual, n.greatest - 1, ABOVE));
    }

    private static void productsAndQuotients(Numbers n, List<Case> cases) {
        long oneAndHalf = n.one | 1L << (n.precision - 2);
        cases.add(new Case(n, FloatUnit.MULTIPLY, n.one + 1, n.one + 1, n.one + 2, BELOW));
        cases.add(new Case(n, FloatUnit.MULTIPLY, n.one + 1, oneAndHalf, oneAndHalf + 1, HALF));
        cases.add(new Case(n, FloatUnit.MULTIPLY, n.one + 3, oneAndHalf, oneAndHalf + 4, HALF));
        cases.add(new Case(n, FloatUnit.MULTIPLY, n.two - 1, n.two - 1, n.power(2) - 2, BELOW));
        // 1 / (1 + u) is 1 - u + u * u - .., and the numbers below 1 are u / 2 apart
        cases.add(new Case(n, FloatUnit.DIVIDE, n.one, n.one + 1, n.one - 2, BELOW));
        // 1 / (1 - u / 2) is 1 + u / 2 + u * u / 4 + ..
        cases.add(new Case(n, FloatUnit.DIVIDE, n.one, n.one - 1, n.one, ABOVE));
    }

    private static void smallOnes(Numbers n, List<Case> cases) {
        int multiply = FloatUnit.MULTIPLY;
        cases.add(new Case(n, multiply, n.least, n.least, 0, BELOW));
        cases.add(new Case(n, multiply, n.least, n.quarter, 0, BELOW));
        cases.add(new Case(n, multiply, n.least, n.half - 1, 0, BELOW));
        cases.add(new Case(n, multiply, n.least, n.half, 0, HALF));
        cases.add(new Case(n, multiply, n.least, n.half + 1, 0, ABOVE));
        cases.add(new Case(n, multiply, 3, n.quarter, 0, ABOVE));
        cases.add(new Case(n, multiply, 3, n.half, 1, HALF));
        cases.add(new Case(n, multiply, 5, n.quarter, 1, BELOW));
        cases.add(new Case(n, multiply, 5, n.half, 2, HALF));
        cases.add(new Case(n, multiply, n.leastUsual, n.one - 1, n.greatestSmall, HALF));
        cases.add(new Case(n, multiply, n.leastUsual + 1, n.one - 1, n.leastUsual, BELOW));
        cases.add(new Case(n, multiply, n.greatestSmall, n.one - 1, n.greatestSmall - 1, ABOVE));
        cases.add(new Case(n, FloatUnit.DIVIDE, n.least, n.three, 0, BELOW));
        cases.add(new Case(n, FloatUnit.DIVIDE, 2, n.three, 0, ABOVE));
        cases.add(new Case(n, FloatUnit.DIVIDE, n.least, n.greatest, 0, BELOW));
        cases.add(new Case(n, FloatUnit.DIVIDE, n.greatestSmall, n.two, n.greatestSmall / 2, HALF));
    }

    private static void nearest() {
        for (Case c : cases()) {
            if (c.place != HALF) {
                c.due(0, false, c.place == BELOW ? c.lower : c.lower + 1);
                c.due(0, true, c.place == BELOW ? c.lower : c.lower + 1);
            }
        }
    }

    private static void halves() {
        for (Case c : cases()) {
            if (c.place == HALF) {
                c.due(0, false, c.even());
                c.due(0, true, c.even());
            }
        }
    }

    private static void toZero() {
        for (Case c : cases()) {
            c.due(1, false, c.lower);
            c.due(1, true, c.lower);
        }
    }

    private static void upward() {
        for (Case c : cases()) {
            c.due(2, false, c.lower + 1);
            c.due(2, true, c.lower);
        }
    }

    private static void downward() {
        for (Case c : cases()) {
            c.due(3, false, c.lower);
            c.due(3, true, c.lower + 1);
        }
    }

    /** What the document gives for what is too large. */
    private static long tooLarge(Numbers n, int mode, boolean minus) {
        boolean finite = mode == 1 || mode == 2 && minus || mode == 3 && !minus;
        return n.signed(minus, finite ? n.greatest : n.endless);
    }

    private static void huge(Numbers n, int op, int mode, long x, long y, boolean minus) {
        CALLS.work(n, op, mode, x, y, tooLarge(n, mode, minus), HUGE | INEXACT);
    }

    private static void beyond(int mode) {
        for (Numbers n : Numbers.values()) {
            for (boolean minus : new boolean[] {false, true}) {
                long x = n.signed(minus, n.greatest);
                long other = n.signed(!minus, n.greatest);
                huge(n, FloatUnit.ADD, mode, x, x, minus);
                huge(n, FloatUnit.ADD, mode, x, n.signed(minus, n.power(n.bias)), minus);
                huge(n, FloatUnit.SUBTRACT, mode, x, other, minus);
                huge(n, FloatUnit.MULTIPLY, mode, x, n.two, minus);
                huge(n, FloatUnit.MULTIPLY, mode, x, n.one + 1, minus);
                huge(n, FloatUnit.MULTIPLY, mode, n.greatest, x, minus);
                huge(n, FloatUnit.MULTIPLY, mode, n.greatest | n.minus, other, minus);
                huge(n, FloatUnit.DIVIDE, mode, x, n.half, minus);
                huge(n, FloatUnit.DIVIDE, mode, x, n.least, minus);
                huge(n, FloatUnit.DIVIDE, mode, other, n.least | n.minus, minus);
            }
        }
        for (boolean minus : new boolean[] {false, true}) {
            long want = tooLarge(Numbers.NARROW, mode, minus);
            Numbers wide = Numbers.WIDE;
            CALLS.turn(wide, mode, wide.signed(minus, wide.greatest), want, HUGE | INEXACT);
            CALLS.turn(wide, mode, wide.signed(minus, wide.power(128) + 1), want, HUGE | INEXACT);
        }
    }

    private static void exactlyTheLimit() {
        for (int mode = 0; mode < 4; mode++) {
            for (Numbers n : Numbers.values()) {
                for (boolean minus : new boolean[] {false, true}) {
                    long x = n.signed(minus, n.power(n.bias));
                    huge(n, FloatUnit.ADD, mode, x, x, minus);
                    huge(n, FloatUnit.SUBTRACT, mode, x, x ^ n.minus, minus);
                    huge(n, FloatUnit.MULTIPLY, mode, x, n.two, minus);
                    huge(n, FloatUnit.DIVIDE, mode, x, n.half, minus);
                }
            }
            long wide = Numbers.WIDE.power(128);
            CALLS.turn(Numbers.WIDE, mode, wide, tooLarge(Numbers.NARROW, mode, false),
                    HUGE | INEXACT);
            CALLS.turn(Numbers.WIDE, mode, wide | Numbers.WIDE.minus,
                    tooLarge(Numbers.NARROW, mode, true), HUGE | INEXACT);
        }
    }

    private static void upToTheLimit() {
        for (Numbers n : Numbers.values()) {
            long halfUnit = n.power(n.bias - n.precision);
            for (boolean minus : new boolean[] {false, true}) {
                long x = n.signed(minus, n.greatest);
                int away = minus ? 3 : 2;
                huge(n, FloatUnit.ADD, 0, x, n.signed(minus, halfUnit), minus);
                huge(n, FloatUnit.SUBTRACT, 0, x, n.signed(!minus, halfUnit + 1), minus);
                huge(n, FloatUnit.ADD, away, x, n.signed(minus, halfUnit), minus);
                huge(n, FloatUnit.ADD, away, x, n.signed(minus, halfUnit - 1), minus);
                huge(n, FloatUnit.ADD, away, x, n.signed(minus, n.least), minus);
                // 2 ** (B + 1) * (1 - u * u), where u is 2 ** (1 - p)
                long y = n.signed(minus, n.two - 2);
                huge(n, FloatUnit.MULTIPLY, away, n.power(n.bias) + 1, y, minus);
                huge(n, FloatUnit.MULTIPLY, 0, n.power(n.bias) + 1, y, minus);
            }
        }
        Numbers wide = Numbers.WIDE;
        Numbers narrow = Numbers.NARROW;
        long middle = 0x47EFFFFFF0000000L;
        CALLS.turn(wide, 0, middle, narrow.endless, HUGE | INEXACT);
        CALLS.turn(wide, 0, middle | wide.minus, narrow.endless | narrow.minus, HUGE | INEXACT);
        CALLS.turn(wide, 2, 0x47EFFFFFE0000001L, narrow.endless, HUGE | INEXACT);
        CALLS.turn(wide, 3, 0x47EFFFFFE0000001L | wide.minus, narrow.endless | narrow.minus,
                HUGE | INEXACT);
    }

    private static void belowTheLimit() {
        for (Numbers n : Numbers.values()) {
            long halfUnit = n.power(n.bias - n.precision);
            for (boolean minus : new boolean[] {false, true}) {
                long x = n.signed(minus, n.greatest);
                CALLS.work(n, FloatUnit.ADD, 0, x, n.signed(minus, halfUnit - 1), x, INEXACT);
                CALLS.work(n, FloatUnit.ADD, 0, x, n.signed(minus, n.least), x, INEXACT);
                for (int mode : new int[] {1, minus ? 2 : 3}) {
                    CALLS.work(n, FloatUnit.ADD, mode, x, n.signed(minus, halfUnit), x, INEXACT);
                    CALLS.work(n, FloatUnit.ADD, mode, x, n.signed(minus, halfUnit + 1), x,
                            INEXACT);
                    CALLS.work(n, FloatUnit.ADD, mode, x, n.signed(minus, 2 * n.least), x, INEXACT);
                    CALLS.work(n, FloatUnit.MULTIPLY, mode, n.power(n.bias) + 1,
                            n.signed(minus, n.two - 2), x, INEXACT);
                }
            }
        }
        long middle = 0x47EFFFFFF0000000L;
        Numbers narrow = Numbers.NARROW;
        CALLS.turn(Numbers.WIDE, 0, middle - 1, narrow.greatest, INEXACT);
        CALLS.turn(Numbers.WIDE, 1, middle, narrow.greatest, INEXACT);
        CALLS.turn(Numbers.WIDE, 3, 0x47EFFFFFFFFFFFFFL, narrow.greatest, INEXACT);
        CALLS.turn(Numbers.WIDE, 2, 0xC7EFFFFFFFFFFFFFL, narrow.greatest | narrow.minus, INEXACT);
    }

    private static void exact() {
        for (Numbers n : Numbers.values()) {
            long belowGreatest = n.greatest - 1;
            for (boolean minus : new boolean[] {false, true}) {
                long one = n.signed(minus, n.one);
                CALLS.always(n, FloatUnit.ADD, one, n.signed(minus, n.two), n.signed(minus, n.three), 0);
                CALLS.always(n, FloatUnit.ADD, one, n.signed(minus, n.power(1 - n.precision)),
                        one + 1, 0);
                CALLS.always(n, FloatUnit.SUBTRACT, n.signed(minus, n.greatest),
                        n.signed(minus, n.power(n.bias - n.precision + 1)),
                        n.signed(minus, belowGreatest), 0);
                CALLS.always(n, FloatUnit.MULTIPLY, one, n.greatest, n.signed(minus, n.greatest), 0);
                CALLS.always(n, FloatUnit.DIVIDE, one, n.power(n.bias - 1),
                        n.signed(minus, n.leastUsual), 0);
                CALLS.work(n, FloatUnit.DIVIDE, 1, one, n.three ^ 1, n.signed(minus,
                        n.narrow ? 0x3EAAAAA9L : 0x3FD5555555555554L), INEXACT);
            }
        }
    }

    private static void tiny() {
        for (Numbers n : Numbers.values()) {
            for (int mode = 0; mode < 4; mode++) {
                for (boolean minus : new boolean[] {false, true}) {
                    boolean away = mode == (minus ? 3 : 2);
                    long three = n.signed(minus, 3);
                    CALLS.work(n, FloatUnit.MULTIPLY, mode, three, n.half,
                            n.signed(minus, mode == 0 || away ? 2 : 1), TINY | INEXACT);
                    long x = n.signed(minus, n.greatestSmall);
                    CALLS.work(n, FloatUnit.DIVIDE, mode, x, n.one + 1,
                            away ? x : x - 1, TINY | INEXACT);
                }
            }
        }
    }

    private static void upToTheLeastUsual() {
        for (Numbers n : Numbers.values()) {
            for (int mode = 0; mode < 4; mode++) {
                for (boolean minus : new boolean[] {false, true}) {
                    boolean up = mode == 0 || mode == (minus ? 3 : 2);
                    CALLS.work(n, FloatUnit.MULTIPLY, mode, n.signed(minus, n.leastUsual), n.one - 1,
                            n.signed(minus, up ? n.leastUsual : n.greatestSmall),
                            up ? INEXACT : INEXACT | TINY);
                }
            }
        }
    }

    private static void exactAndSmall() {
        for (Numbers n : Numbers.values()) {
            for (boolean minus : new boolean[] {false, true}) {
                CALLS.always(n, FloatUnit.MULTIPLY, n.signed(minus, n.leastUsual), n.half,
                        n.signed(minus, n.leastUsual >> 1), 0);
                CALLS.always(n, FloatUnit.DIVIDE, n.signed(minus, 6), n.two, n.signed(minus, 3), 0);
                CALLS.always(n, FloatUnit.ADD, n.signed(minus, 1), n.signed(minus, 1),
                        n.signed(minus, 2), 0);
                CALLS.always(n, FloatUnit.SUBTRACT, n.signed(minus, n.leastUsual + 1),
                        n.signed(minus, n.leastUsual), n.signed(minus, 1), 0);
            }
        }
    }

    private static void toNothing() {
        for (Numbers n : Numbers.values()) {
            for (int mode = 0; mode < 4; mode++) {
                for (boolean minus : new boolean[] {false, true}) {
                    long want = n.signed(minus, mode == (minus ? 3 : 2) ? n.least : 0);
                    long x = n.signed(minus, n.least);
                    CALLS.work(n, FloatUnit.MULTIPLY, mode, x, n.least, want, TINY | INEXACT);
                    CALLS.work(n, FloatUnit.MULTIPLY, mode, x, n.half, want, TINY | INEXACT);
                    CALLS.work(n, FloatUnit.DIVIDE, mode, x, n.two, want, TINY | INEXACT);
                    CALLS.work(n, FloatUnit.DIVIDE, mode, x, n.greatest, want, TINY | INEXACT);
                }
            }
        }
        Numbers narrow = Numbers.NARROW;
        for (int mode = 0; mode < 4; mode++) {
            CALLS.turn(Numbers.WIDE, mode, 1, mode == 2 ? 1 : 0, TINY | INEXACT);
            CALLS.turn(Numbers.WIDE, mode, Numbers.WIDE.minus | 1,
                    narrow.minus | (mode == 3 ? 1 : 0), TINY | INEXACT);
        }
    }
}
