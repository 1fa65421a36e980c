/** Promise 11: kind. */
final class KindTest {
    private static final Checks CHECKS = new Checks("KindTest");
    private static final Calls CALLS = new Calls(CHECKS);

    public static void main(String[] args) {
        CHECKS.sentence("0 NONE; 8 more if its sign is minus (NONE, too)", KindTest::none);
        CHECKS.sentence("1 ENDLESS", () -> all(n -> new long[] {n.endless}, 1));
        CHECKS.sentence("2 as usual", () -> all(n -> new long[] {n.leastUsual, n.leastUsual + 1,
            n.one - 1, n.one, n.three, n.power(n.bias), n.greatest}, 2));
        CHECKS.sentence("3 with x 0 and not ZERO", () -> all(n -> new long[] {n.least, 2,
            n.leastUsual >> 1, n.greatestSmall}, 3));
        CHECKS.sentence("4 ZERO", () -> all(n -> new long[] {0}, 4));
        CHECKS.sentence("every exponent", KindTest::everyExponent);
        CHECKS.sentence("of the one FORMAT or of the other", KindTest::formats);
        CHECKS.finish();
    }

    private interface Sizes {
        long[] in(Numbers n);
    }

    private static void all(Sizes sizes, int want) {
        for (Numbers n : Numbers.values()) {
            for (long x : sizes.in(n)) {
                CALLS.kind(n, x, want);
                CALLS.kind(n, x | n.minus, want + 8);
            }
        }
    }

    private static void none() {
        for (Numbers n : Numbers.values()) {
            for (long none : n.nones()) {
                CALLS.kind(n, none, n.isMinus(none) ? 8 : 0);
            }
        }
    }

    private static void everyExponent() {
        for (Numbers n : Numbers.values()) {
            for (int power = 1 - n.bias; power <= n.bias; power++) {
                CALLS.kind(n, n.power(power), 2);
                CALLS.kind(n, n.power(power) + n.greatestSmall | n.minus, 10);
            }
        }
    }

    private static void formats() {
        FloatUnit unit = new FloatUnit();
        unit.put(0, 0x7FF00000_00000000L);
        unit.put(1, 0x00000000_FF800000L);
        unit.put(2, 0x80000000_7FC00000L);
        int[] wide = {1, 3, 11};
        int[] narrow = {4, 9, 0};
        for (int r = 0; r < 3; r++) {
            CHECKS.due("kind " + r, unit.kind(false, r), wide[r]);
            CHECKS.due("kind narrow " + r, unit.kind(true, r), narrow[r]);
        }
    }
}
