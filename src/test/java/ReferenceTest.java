import java.util.Random;

/**
 * Every call that computes, beside Reference: all pairs of the numbers at the formats' edges,
 * and drawn ones (always the same: the seed is written here), in every mode, with the flags.
 */
final class ReferenceTest {
    private static final int DRAWN = 30_000;
    private static final Checks CHECKS = new Checks("ReferenceTest");

    public static void main(String[] args) {
        for (boolean narrow : new boolean[] {false, true}) {
            long[] edges = edges(narrow);
            for (int mode = 0; mode < 4; mode++) {
                for (long x : edges) {
                    one(narrow, mode, x);
                    for (long y : edges) {
                        two(narrow, mode, x, y);
                    }
                }
            }
            drawn(narrow, edges, new Random(20261115));
        }
        CHECKS.finish();
    }

    private static long[] edges(boolean narrow) {
        int places = narrow ? 23 : 52;
        int bias = narrow ? 127 : 1023;
        long all = (1L << places) - 1;
        long[] exponents = {0, 1, 2, places, bias - 2, bias - 1, bias, bias + 1, bias + places,
            bias + places + 1, bias + 30, bias + 31, 2L * bias - 1, 2L * bias, 2L * bias + 1};
        long[] parts = {0, 1, 1L << (places - 1), all};
        long[] edges = new long[exponents.length * parts.length * 2];
        int next = 0;
        for (long x : exponents) {
            for (long f : parts) {
                long bits = x << places | f;
                edges[next++] = bits;
                edges[next++] = bits | (narrow ? 1L << 31 : 1L << 63);
            }
        }
        return edges;
    }

    private static void drawn(boolean narrow, long[] edges, Random random) {
        for (int i = 0; i < DRAWN; i++) {
            int mode = i & 3;
            long x = random.nextLong();
            long y = random.nextLong();
            one(narrow, mode, x);
            two(narrow, mode, x, y);
            two(narrow, mode, x, edges[random.nextInt(edges.length)]);
            // drawn at large, two numbers are mostly too far from each other to meet
            two(narrow, mode, x, near(narrow, x, y, random));
            two(narrow, mode, near(narrow, 0, x, random), near(narrow, 0, y, random));
            whole(narrow, mode, aroundOne(narrow, x, random));
            of(narrow, mode, x >> random.nextInt(64));
            of(narrow, mode, manyZeros(random));
        }
    }

    /** The number with some of its lower bits, and a few steps of its exponent, changed. */
    private static long near(boolean narrow, long x, long y, Random random) {
        int places = narrow ? 23 : 52;
        long mask = (1L << random.nextInt(places + 1)) - 1;
        long step = (long) (random.nextInt(2 * places + 5) - places - 2) << places;
        long sign = random.nextBoolean() ? 0 : narrow ? 1L << 31 : 1L << 63;
        return (x ^ y & mask ^ sign) + (random.nextBoolean() ? step : 0);
    }

    /** With an exponent for which the whole number is not plainly 0 or plainly too large. */
    private static long aroundOne(boolean narrow, long x, Random random) {
        int places = narrow ? 23 : 52;
        int bias = narrow ? 127 : 1023;
        long part = x & ((1L << places) - 1);
        part &= -1L << random.nextInt(places + 1);
        long sign = random.nextBoolean() ? 0 : narrow ? 1L << 31 : 1L << 63;
        return sign | (long) (bias - 2 + random.nextInt(68)) << places | part;
    }

    /** A long of two or three bits, so that halves and their neighbours come up. */
    private static long manyZeros(Random random) {
        long v = 1L << random.nextInt(64) ^ 1L << random.nextInt(64);
        return random.nextBoolean() ? v : v + (1L << random.nextInt(64));
    }

    private static FloatUnit unit(int mode, long x, long y) {
        FloatUnit unit = new FloatUnit();
        unit.mode(mode);
        unit.put(3, x);
        unit.put(4, y);
        return unit;
    }

    private static String text(String call, boolean narrow, int mode, long x, long y) {
        return call + (narrow ? " narrow" : " wide") + " mode " + mode
                + " 0x" + Long.toHexString(x) + " 0x" + Long.toHexString(y);
    }

    /** The answer, the register that it went to, and the flags. */
    private static void settle(String text, FloatUnit unit, long got, long want, int wantFlags) {
        CHECKS.due(text, got, want);
        CHECKS.due(text + ": its register", unit.bits(5), want);
        CHECKS.due(text + ": flags", unit.flags(0), wantFlags);
    }

    private static void two(boolean narrow, int mode, long x, long y) {
        for (int op = FloatUnit.ADD; op <= FloatUnit.REST; op++) {
            Reference reference = new Reference(narrow, mode);
            FloatUnit unit = unit(mode, x, y);
            long want = reference.work(op, x, y);
            settle(text("work " + op, narrow, mode, x, y), unit, unit.work(op, narrow, 5, 3, 4),
                    want, reference.flags);
            CHECKS.holds("work leaves its operands", unit.bits(3) == x && unit.bits(4) == y);
        }
        FloatUnit unit = unit(mode, x, y);
        CHECKS.due(text("compare", narrow, mode, x, y), unit.compare(narrow, 3, 4, 5),
                new Reference(narrow, mode).compare(x, y, 5));
        CHECKS.due(text("compare's flags", narrow, mode, x, y), unit.flags(0), 0);
    }

    private static void one(boolean narrow, int mode, long x) {
        Reference from = new Reference(narrow, mode);
        Reference into = new Reference(!narrow, mode);
        FloatUnit unit = unit(mode, x, 0);
        settle(text("turn", narrow, mode, x, 0), unit, unit.turn(narrow, 5, 3),
                into.turnFrom(from, x), into.flags);
        unit = unit(mode, x, 0);
        settle(text("negate", narrow, mode, x, 0), unit, unit.negate(narrow, 5, 3), from.negate(x), 0);
        CHECKS.due(text("kind", narrow, mode, x, 0), unit.kind(narrow, 3), from.kind(x));
        CHECKS.due(text("kind's flags", narrow, mode, x, 0), unit.flags(0), 0);
        whole(narrow, mode, x);
    }

    private static void whole(boolean narrow, int mode, long x) {
        for (boolean half : new boolean[] {false, true}) {
            Reference reference = new Reference(narrow, mode);
            FloatUnit unit = unit(mode, x, 0);
            String text = text("whole" + (half ? " half" : ""), narrow, mode, x, 0);
            CHECKS.due(text, unit.whole(narrow, 3, half), reference.whole(x, half));
            CHECKS.due(text + ": flags", unit.flags(0), reference.flags);
        }
    }

    private static void of(boolean narrow, int mode, long v) {
        Reference reference = new Reference(narrow, mode);
        FloatUnit unit = unit(mode, 0, 0);
        long want = reference.of(v);
        settle(text("of", narrow, mode, v, 0), unit, unit.of(narrow, 5, v), want, reference.flags);
    }
}
