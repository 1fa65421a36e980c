/** Promise 6: the operations, and each row that it has for exact 0, ENDLESS and ZERO. */
final class WorkTest {
    private static final int ADD = FloatUnit.ADD, SUBTRACT = FloatUnit.SUBTRACT;
    private static final int MULTIPLY = FloatUnit.MULTIPLY, DIVIDE = FloatUnit.DIVIDE;
    private static final int REST = FloatUnit.REST;

    private static final Checks CHECKS = new Checks("WorkTest");
    private static final Calls CALLS = new Calls(CHECKS);

    private interface Rows {
        void in(Numbers n);
    }

    public static void main(String[] args) {
        CHECKS.sentence("REGISTER to is what op tells of x and y: its bits", WorkTest::registers);
        rows("one REGISTER as x and as y, and as to", WorkTest::withItself);
        rows("ADD: the exact result, ROUNDED", WorkTest::add);
        rows("SUBTRACT (x with y, its sign turned)", WorkTest::subtract);
        rows("MULTIPLY: the exact result, ROUNDED", WorkTest::multiply);
        rows("DIVIDE: the exact result, ROUNDED", WorkTest::divide);
        rows("REST: x less y times the cut quotient", WorkTest::rest);
        rows("REST: exact", WorkTest::farRest);
        rows("An exact 0 of ADD, SUBTRACT: both ZERO with one sign: that one", WorkTest::equalZeros);
        rows("An exact 0 of ADD, SUBTRACT: else minus in MODE 3 alone: ZEROS", WorkTest::otherZeros);
        rows("An exact 0 of ADD, SUBTRACT: else minus in MODE 3 alone: others", WorkTest::nothingLeft);
        rows("An exact 0 of MULTIPLY: minus if the signs are not the same", WorkTest::zeroProduct);
        rows("An exact 0 of DIVIDE: minus if the signs are not the same", WorkTest::zeroQuotient);
        rows("An exact 0 of REST: the sign of x", WorkTest::zeroRest);
        rows("ENDLESS: x and y of ADD with other signs: INVALID, NONE", WorkTest::endlessAgainst);
        rows("ENDLESS: ADD: else ENDLESS with that sign: both", WorkTest::endlessTogether);
        rows("ENDLESS: ADD: else ENDLESS with that sign: one", WorkTest::endlessSum);
        rows("ENDLESS: MULTIPLY by ZERO: INVALID, NONE", WorkTest::endlessTimesZero);
        rows("ENDLESS: MULTIPLY: else ENDLESS, minus if the signs are not the same",
                WorkTest::endlessProduct);
        rows("ENDLESS: DIVIDE of two: INVALID, NONE", WorkTest::endlessByEndless);
        rows("ENDLESS: DIVIDE of x alone: ENDLESS, minus if the signs are not the same",
                WorkTest::endlessQuotient);
        rows("ENDLESS: DIVIDE of x alone: y ZERO, too, without a FLAG", WorkTest::endlessByZero);
        rows("ENDLESS: DIVIDE by y: ZERO, likewise", WorkTest::byEndless);
        rows("ENDLESS: REST of x: INVALID, NONE", WorkTest::restOfEndless);
        rows("ENDLESS: REST by y: x", WorkTest::restByEndless);
        rows("By ZERO: DIVIDE: of ZERO INVALID, NONE", WorkTest::zeroByZero);
        rows("By ZERO: DIVIDE: of other finite ones FLAG ZERO, ENDLESS, minus likewise",
                WorkTest::finiteByZero);
        rows("By ZERO: REST: INVALID, NONE", WorkTest::restByZero);
        rows("REST: x ENDLESS or y ZERO first", WorkTest::restOrder);
        CHECKS.finish();
    }

    private static void rows(String words, Rows rows) {
        CHECKS.sentence(words, () -> {
            for (Numbers n : Numbers.values()) {
                rows.in(n);
            }
        });
    }

    private static void registers() {
        FloatUnit unit = new FloatUnit();
        unit.put(1, Numbers.WIDE.three);
        unit.put(2, Numbers.WIDE.two);
        CHECKS.due("to is x", unit.work(SUBTRACT, false, 1, 1, 2), Numbers.WIDE.one);
        CHECKS.due("x", unit.bits(1), Numbers.WIDE.one);
        CHECKS.due("y", unit.bits(2), Numbers.WIDE.two);
        CHECKS.due("to is y", unit.work(SUBTRACT, false, 2, 2, 1), Numbers.WIDE.one);
        CHECKS.due("all are one", unit.work(ADD, false, 1, 1, 1), Numbers.WIDE.two);
        CHECKS.due("its bits", unit.bits(1), Numbers.WIDE.two);
        for (int r = 0; r < 16; r++) {
            unit = new FloatUnit();
            unit.put(r, Numbers.WIDE.three);
            unit.put((r + 1) % 16, Numbers.WIDE.one);
            int to = (r + 2) % 16;
            CHECKS.due("x " + r, unit.work(SUBTRACT, false, to, r, (r + 1) % 16), Numbers.WIDE.two);
            for (int other = 0; other < 16; other++) {
                long want = other == to ? Numbers.WIDE.two : other == r ? Numbers.WIDE.three
                        : other == (r + 1) % 16 ? Numbers.WIDE.one : 0;
                CHECKS.due("bits " + other, unit.bits(other), want);
            }
        }
    }

    /** As with two registers that have the same bits. */
    private static void withItself(Numbers n) {
        for (int op = ADD; op <= REST; op++) {
            for (long x : n.all()) {
                sameAsWithTwo(n, op, x);
            }
            for (long none : n.nones()) {
                sameAsWithTwo(n, op, none);
            }
        }
    }

    private static void sameAsWithTwo(Numbers n, int op, long x) {
        for (int mode = 0; mode < 4; mode++) {
            FloatUnit two = Calls.unit(n, mode, x, x);
            FloatUnit one = Calls.unit(n, mode, x, 0);
            long want = two.work(op, n.narrow, 3, 1, 2);
            String text = n + " op " + op + " of 0x" + Long.toHexString(x) + " with itself";
            CHECKS.due(text, one.work(op, n.narrow, 3, 1, 1), want);
            CHECKS.due(text + ", in place", one.work(op, n.narrow, 1, 1, 1), want);
            CHECKS.due(text + ": register", one.bits(1), want);
            CHECKS.due(text + ": flags", one.flags(0), two.flags(0));
        }
    }

    private static void add(Numbers n) {
        for (boolean minus : new boolean[] {false, true}) {
            long one = n.signed(minus, n.one);
            CALLS.always(n, ADD, one, n.signed(minus, n.two), n.signed(minus, n.three), 0);
            CALLS.always(n, ADD, n.signed(minus, n.three), n.signed(!minus, n.two), one, 0);
            CALLS.always(n, ADD, n.signed(!minus, n.two), n.signed(minus, n.three), one, 0);
            // what is left of two neighbours is small, and exact
            CALLS.always(n, ADD, n.signed(minus, n.one + 1), n.signed(!minus, n.one),
                    n.signed(minus, n.power(1 - n.precision)), 0);
            CALLS.always(n, ADD, n.signed(minus, n.leastUsual + 1), n.signed(!minus, n.leastUsual),
                    n.signed(minus, n.least), 0);
            CALLS.always(n, ADD, n.signed(minus, n.greatest), n.signed(!minus, n.power(n.bias)),
                    n.signed(minus, n.power(n.bias) - 2), 0);
        }
    }

    private static void subtract(Numbers n) {
        CALLS.always(n, SUBTRACT, n.three, n.two, n.one, 0);
        CALLS.always(n, SUBTRACT, n.two, n.three, n.one | n.minus, 0);
        CALLS.always(n, SUBTRACT, n.one, n.two | n.minus, n.three, 0);
        CALLS.always(n, SUBTRACT, n.one | n.minus, n.two, n.three | n.minus, 0);
        for (long x : n.all()) {
            for (long y : n.all()) {
                for (int mode = 0; mode < 4; mode++) {
                    FloatUnit unit = Calls.unit(n, mode, x, y ^ n.minus);
                    long want = unit.work(ADD, n.narrow, 3, 1, 2);
                    CALLS.work(n, SUBTRACT, mode, x, y, want, unit.flags(0));
                }
            }
        }
    }

    private static void multiply(Numbers n) {
        for (long x : n.withBothSigns(new long[] {n.two})) {
            for (long y : n.withBothSigns(new long[] {n.half})) {
                CALLS.always(n, MULTIPLY, x, y, n.bySigns(x, y, n.one), 0);
                CALLS.always(n, MULTIPLY, y, x, n.bySigns(x, y, n.one), 0);
            }
        }
        CALLS.always(n, MULTIPLY, n.three, n.three, n.power(3) | 1L << (n.precision - 4), 0);
        CALLS.always(n, MULTIPLY, n.least, n.two, 2 * n.least, 0);
        CALLS.always(n, MULTIPLY, n.least, n.power(n.bias), n.power(2 - n.precision), 0);
    }

    private static void divide(Numbers n) {
        for (long x : n.withBothSigns(new long[] {n.one})) {
            for (long y : n.withBothSigns(new long[] {n.two})) {
                CALLS.always(n, DIVIDE, x, y, n.bySigns(x, y, n.half), 0);
                CALLS.always(n, DIVIDE, y, x, n.bySigns(x, y, n.two), 0);
            }
        }
        for (long x : n.finite()) {
            CALLS.always(n, DIVIDE, x, x, n.one, 0);
            CALLS.always(n, DIVIDE, x, n.one, x, 0);
        }
        CALLS.always(n, DIVIDE, n.three, n.two, n.one | 1L << (n.precision - 2), 0);
        CALLS.always(n, DIVIDE, n.one, n.power(n.bias), n.leastUsual >> 1, 0);
    }

    private static void rest(Numbers n) {
        for (boolean minus : new boolean[] {false, true}) {
            for (long sign : n.zeros()) {
                CALLS.always(n, REST, n.signed(minus, n.three), n.two | sign, n.signed(minus, n.one), 0);
                CALLS.always(n, REST, n.signed(minus, n.two), n.three | sign, n.signed(minus, n.two), 0);
                // cut, not the nearest: 5 is 3 and 2 more, not 6 less 1
                long five = n.power(2) | 1L << (n.precision - 3);
                CALLS.always(n, REST, n.signed(minus, five), n.three | sign, n.signed(minus, n.two), 0);
                long x = n.signed(minus, n.two - 1);
                CALLS.always(n, REST, x, n.two | sign, x, 0);
                CALLS.always(n, REST, x, n.one | sign, n.signed(minus, n.one - 2), 0);
                CALLS.always(n, REST, n.signed(minus, n.leastUsual + 1), n.leastUsual | sign,
                        n.signed(minus, n.least), 0);
                CALLS.always(n, REST, n.signed(minus, 7), 4 | sign, n.signed(minus, 3), 0);
                CALLS.always(n, REST, n.signed(minus, n.least), n.greatest | sign,
                        n.signed(minus, n.least), 0);
            }
        }
    }

    private static void farRest(Numbers n) {
        for (boolean minus : new boolean[] {false, true}) {
            for (long sign : n.zeros()) {
                // a power of two that is odd leaves 2 of 3, an even one 1; so too in least units
                CALLS.always(n, REST, n.signed(minus, n.power(n.bias)), n.three | sign,
                        n.signed(minus, n.two), 0);
                CALLS.always(n, REST, n.signed(minus, n.power(n.bias - 1)), n.three | sign,
                        n.signed(minus, n.one), 0);
                int units = n.bias + n.bias + n.precision - 2;
                CALLS.always(n, REST, n.signed(minus, n.power(n.bias)), 3 | sign,
                        n.signed(minus, units % 2 == 0 ? 1 : 2), 0);
                CALLS.always(n, REST, n.signed(minus, n.greatest), n.power(n.bias) | sign,
                        n.signed(minus, n.power(n.bias) - 2), 0);
                CALLS.always(n, REST, n.signed(minus, n.greatest), n.greatest - 1 | sign,
                        n.signed(minus, n.power(n.bias - n.precision + 1)), 0);
            }
        }
    }

    private static void equalZeros(Numbers n) {
        CALLS.always(n, ADD, 0, 0, 0, 0);
        CALLS.always(n, ADD, n.minus, n.minus, n.minus, 0);
        CALLS.always(n, SUBTRACT, 0, n.minus, 0, 0);
        CALLS.always(n, SUBTRACT, n.minus, 0, n.minus, 0);
    }

    private static void otherZeros(Numbers n) {
        for (int mode = 0; mode < 4; mode++) {
            long want = mode == 3 ? n.minus : 0;
            CALLS.work(n, ADD, mode, 0, n.minus, want, 0);
            CALLS.work(n, ADD, mode, n.minus, 0, want, 0);
            CALLS.work(n, SUBTRACT, mode, 0, 0, want, 0);
            CALLS.work(n, SUBTRACT, mode, n.minus, n.minus, want, 0);
        }
    }

    private static void nothingLeft(Numbers n) {
        for (int mode = 0; mode < 4; mode++) {
            long want = mode == 3 ? n.minus : 0;
            for (long x : n.finite()) {
                CALLS.work(n, ADD, mode, x, x ^ n.minus, want, 0);
                CALLS.work(n, SUBTRACT, mode, x, x, want, 0);
            }
        }
    }

    private static void zeroProduct(Numbers n) {
        for (long zero : n.zeros()) {
            for (long y : n.finite()) {
                CALLS.always(n, MULTIPLY, zero, y, n.bySigns(zero, y, 0), 0);
                CALLS.always(n, MULTIPLY, y, zero, n.bySigns(zero, y, 0), 0);
            }
            for (long y : n.zeros()) {
                CALLS.always(n, MULTIPLY, zero, y, n.bySigns(zero, y, 0), 0);
            }
        }
    }

    private static void zeroQuotient(Numbers n) {
        for (long zero : n.zeros()) {
            for (long y : n.finite()) {
                CALLS.always(n, DIVIDE, zero, y, n.bySigns(zero, y, 0), 0);
            }
        }
    }

    private static void zeroRest(Numbers n) {
        for (boolean minus : new boolean[] {false, true}) {
            for (long y : n.finite()) {
                CALLS.always(n, REST, n.signed(minus, 0), y, n.signed(minus, 0), 0);
                CALLS.always(n, REST, n.signed(minus, y & ~n.minus), y, n.signed(minus, 0), 0);
            }
            for (long sign : n.zeros()) {
                CALLS.always(n, REST, n.signed(minus, n.three), n.one | sign, n.signed(minus, 0), 0);
                CALLS.always(n, REST, n.signed(minus, n.greatest), n.least | sign,
                        n.signed(minus, 0), 0);
                CALLS.always(n, REST, n.signed(minus, 6), 3 | sign, n.signed(minus, 0), 0);
            }
        }
    }

    private static long[] endless(Numbers n) {
        return n.withBothSigns(new long[] {n.endless});
    }

    private static void endlessAgainst(Numbers n) {
        for (long x : endless(n)) {
            CALLS.always(n, ADD, x, x ^ n.minus, n.none, Calls.INVALID);
            CALLS.always(n, SUBTRACT, x, x, n.none, Calls.INVALID);
        }
    }

    private static void endlessTogether(Numbers n) {
        for (long x : endless(n)) {
            CALLS.always(n, ADD, x, x, x, 0);
            CALLS.always(n, SUBTRACT, x, x ^ n.minus, x, 0);
        }
    }

    private static void endlessSum(Numbers n) {
        for (long x : endless(n)) {
            for (long y : n.finite()) {
                CALLS.always(n, ADD, x, y, x, 0);
                CALLS.always(n, ADD, y, x, x, 0);
                CALLS.always(n, SUBTRACT, x, y, x, 0);
                CALLS.always(n, SUBTRACT, y, x, x ^ n.minus, 0);
            }
            for (long zero : n.zeros()) {
                CALLS.always(n, ADD, x, zero, x, 0);
                CALLS.always(n, ADD, zero, x, x, 0);
                CALLS.always(n, SUBTRACT, x, zero, x, 0);
                CALLS.always(n, SUBTRACT, zero, x, x ^ n.minus, 0);
            }
        }
    }

    private static void endlessTimesZero(Numbers n) {
        for (long x : endless(n)) {
            for (long zero : n.zeros()) {
                CALLS.always(n, MULTIPLY, x, zero, n.none, Calls.INVALID);
                CALLS.always(n, MULTIPLY, zero, x, n.none, Calls.INVALID);
            }
        }
    }

    private static void endlessProduct(Numbers n) {
        for (long x : endless(n)) {
            for (long y : n.finite()) {
                CALLS.always(n, MULTIPLY, x, y, n.bySigns(x, y, n.endless), 0);
                CALLS.always(n, MULTIPLY, y, x, n.bySigns(x, y, n.endless), 0);
            }
            for (long y : endless(n)) {
                CALLS.always(n, MULTIPLY, x, y, n.bySigns(x, y, n.endless), 0);
            }
        }
    }

    private static void endlessByEndless(Numbers n) {
        for (long x : endless(n)) {
            for (long y : endless(n)) {
                CALLS.always(n, DIVIDE, x, y, n.none, Calls.INVALID);
            }
        }
    }

    private static void endlessQuotient(Numbers n) {
        for (long x : endless(n)) {
            for (long y : n.finite()) {
                CALLS.always(n, DIVIDE, x, y, n.bySigns(x, y, n.endless), 0);
            }
        }
    }

    private static void endlessByZero(Numbers n) {
        for (long x : endless(n)) {
            for (long zero : n.zeros()) {
                CALLS.always(n, DIVIDE, x, zero, n.bySigns(x, zero, n.endless), 0);
            }
        }
    }

    private static void byEndless(Numbers n) {
        for (long y : endless(n)) {
            for (long x : n.finite()) {
                CALLS.always(n, DIVIDE, x, y, n.bySigns(x, y, 0), 0);
            }
            for (long zero : n.zeros()) {
                CALLS.always(n, DIVIDE, zero, y, n.bySigns(zero, y, 0), 0);
            }
        }
    }

    private static void restOfEndless(Numbers n) {
        for (long x : endless(n)) {
            for (long y : n.finite()) {
                CALLS.always(n, REST, x, y, n.none, Calls.INVALID);
            }
        }
    }

    private static void restByEndless(Numbers n) {
        for (long y : endless(n)) {
            for (long x : n.finite()) {
                CALLS.always(n, REST, x, y, x, 0);
            }
            for (long zero : n.zeros()) {
                CALLS.always(n, REST, zero, y, zero, 0);
            }
        }
    }

    private static void zeroByZero(Numbers n) {
        for (long x : n.zeros()) {
            for (long y : n.zeros()) {
                CALLS.always(n, DIVIDE, x, y, n.none, Calls.INVALID);
            }
        }
    }

    private static void finiteByZero(Numbers n) {
        for (long zero : n.zeros()) {
            for (long x : n.finite()) {
                CALLS.always(n, DIVIDE, x, zero, n.bySigns(x, zero, n.endless), Calls.BY_ZERO);
            }
        }
    }

    private static void restByZero(Numbers n) {
        for (long zero : n.zeros()) {
            for (long x : n.finite()) {
                CALLS.always(n, REST, x, zero, n.none, Calls.INVALID);
            }
        }
    }

    /** Where the rows for y ENDLESS, and for an exact 0, would say another thing. */
    private static void restOrder(Numbers n) {
        for (long x : endless(n)) {
            for (long y : endless(n)) {
                CALLS.always(n, REST, x, y, n.none, Calls.INVALID);
            }
            for (long zero : n.zeros()) {
                CALLS.always(n, REST, x, zero, n.none, Calls.INVALID);
            }
        }
        for (long x : n.zeros()) {
            for (long zero : n.zeros()) {
                CALLS.always(n, REST, x, zero, n.none, Calls.INVALID);
            }
        }
    }
}
