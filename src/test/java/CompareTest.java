/** Promise 7: compare. */
final class CompareTest {
    private static final Checks CHECKS = new Checks("CompareTest");
    private static final Calls CALLS = new Calls(CHECKS);

    public static void main(String[] args) {
        CHECKS.sentence("-1, 0, 1: x is less, the same, greater", CompareTest::order);
        CHECKS.sentence("the same (ZEROS are)", CompareTest::zeros);
        CHECKS.sentence("ENDLESS is beyond all others, and the same as itself", CompareTest::endless);
        CHECKS.sentence("ifNone if one is NONE", CompareTest::none);
        CHECKS.sentence("one REGISTER as x and as y", CompareTest::withItself);
        CHECKS.sentence("no FLAG", CompareTest::noFlag);
        CHECKS.finish();
    }

    private static long[] rising(Numbers n) {
        return new long[] {n.greatest | n.minus, n.two | n.minus, n.one + 1 | n.minus,
            n.one | n.minus, n.leastUsual | n.minus, n.greatestSmall | n.minus, n.least | n.minus, 0,
            n.least, n.greatestSmall, n.leastUsual, n.one - 1, n.one, n.one + 1, n.two, n.greatest};
    }

    private static void order() {
        for (Numbers n : Numbers.values()) {
            long[] rising = rising(n);
            for (int i = 0; i < rising.length; i++) {
                for (int j = 0; j < rising.length; j++) {
                    CALLS.compare(n, rising[i], rising[j], 9, Integer.compare(i, j));
                }
            }
        }
    }

    private static void zeros() {
        for (Numbers n : Numbers.values()) {
            for (long x : n.zeros()) {
                for (long y : n.zeros()) {
                    CALLS.compare(n, x, y, 9, 0);
                }
                CALLS.compare(n, x, n.least, 9, -1);
                CALLS.compare(n, x, n.least | n.minus, 9, 1);
                CALLS.compare(n, n.least, x, 9, 1);
                CALLS.compare(n, n.least | n.minus, x, 9, -1);
            }
        }
    }

    private static void endless() {
        for (Numbers n : Numbers.values()) {
            long below = n.endless | n.minus;
            for (long x : rising(n)) {
                CALLS.compare(n, x, n.endless, 9, -1);
                CALLS.compare(n, n.endless, x, 9, 1);
                CALLS.compare(n, x, below, 9, 1);
                CALLS.compare(n, below, x, 9, -1);
            }
            CALLS.compare(n, n.endless, n.endless, 9, 0);
            CALLS.compare(n, below, below, 9, 0);
            CALLS.compare(n, below, n.endless, 9, -1);
            CALLS.compare(n, n.endless, below, 9, 1);
        }
    }

    private static void none() {
        int[] answers = {7, -1, 0, 1, Integer.MIN_VALUE, Integer.MAX_VALUE};
        for (Numbers n : Numbers.values()) {
            for (long none : n.nones()) {
                for (int ifNone : answers) {
                    for (long other : n.all()) {
                        CALLS.compare(n, none, other, ifNone, ifNone);
                        CALLS.compare(n, other, none, ifNone, ifNone);
                    }
                    CALLS.compare(n, none, none, ifNone, ifNone);
                    CALLS.compare(n, none, n.none, ifNone, ifNone);
                }
            }
        }
    }

    private static void withItself() {
        for (Numbers n : Numbers.values()) {
            for (long x : n.all()) {
                CHECKS.due("compare with itself", Calls.unit(n, 0, x, 0).compare(n.narrow, 1, 1, 9), 0);
            }
            for (long none : n.nones()) {
                CHECKS.due("NONE with itself", Calls.unit(n, 0, none, 0).compare(n.narrow, 1, 1, 9), 9);
            }
        }
    }

    private static void noFlag() {
        FloatUnit unit = new FloatUnit();
        unit.put(1, Numbers.WIDE.none);
        unit.put(2, Numbers.WIDE.endless + 1);
        unit.put(3, Numbers.WIDE.endless);
        for (int x = 0; x < 4; x++) {
            for (int y = 0; y < 4; y++) {
                unit.compare(false, x, y, 9);
                CHECKS.due("flags", unit.flags(0), 0);
            }
        }
    }
}
