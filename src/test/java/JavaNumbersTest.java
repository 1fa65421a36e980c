import java.util.Random;

/**
 * Mode 0 beside Java's own double and float, which share neither code nor thought with
 * FloatUnit and Reference. Flags are not asked for: Java has none.
 */
final class JavaNumbersTest {
    private static final int DRAWN = 300_000;
    private static final Checks CHECKS = new Checks("JavaNumbersTest");

    public static void main(String[] args) {
        Random random = new Random(754);
        for (int i = 0; i < DRAWN; i++) {
            long x = random.nextLong();
            long y = random.nextLong();
            if (i % 2 == 0) {
                // close exponents, so that sums cancel and quotients come near to 1
                y = x & 0x7FF0000000000000L ^ y & 0x803FFFFFFFFFFFFFL;
            }
            if (i % 3 == 0) {
                x &= 0x800FFFFFFFFFFFFFL;
            }
            wide(x, y);
            narrow(x >>> 32, y >>> 32);
            others(x);
        }
        CHECKS.finish();
    }

    private static long work(int op, boolean narrow, long x, long y) {
        FloatUnit unit = new FloatUnit();
        unit.put(0, x);
        unit.put(1, y);
        return unit.work(op, narrow, 2, 0, 1);
    }

    private static void wide(long x, long y) {
        double a = Double.longBitsToDouble(x);
        double b = Double.longBitsToDouble(y);
        double[] want = {a + b, a - b, a * b, a / b, a % b};
        for (int op = 0; op < want.length; op++) {
            CHECKS.due("wide " + op + " of " + a + ", " + b, work(op, false, x, y),
                    Double.doubleToLongBits(want[op]));
        }
    }

    private static void narrow(long x, long y) {
        float a = Float.intBitsToFloat((int) x);
        float b = Float.intBitsToFloat((int) y);
        float[] want = {a + b, a - b, a * b, a / b, a % b};
        for (int op = 0; op < want.length; op++) {
            CHECKS.due("narrow " + op + " of " + a + ", " + b, work(op, true, x, y), bits(want[op]));
        }
    }

    private static void others(long x) {
        FloatUnit unit = new FloatUnit();
        unit.put(0, x);
        double wide = Double.longBitsToDouble(x);
        float narrow = Float.intBitsToFloat((int) x);
        CHECKS.due("turn of " + wide, unit.turn(false, 1, 0), bits((float) wide));
        CHECKS.due("turn of " + narrow, unit.turn(true, 1, 0), Double.doubleToLongBits(narrow));
        CHECKS.due("of " + x, unit.of(false, 1, x), Double.doubleToLongBits(x));
        CHECKS.due("of narrow " + x, unit.of(true, 1, x), bits(x));
        CHECKS.due("whole of " + wide, unit.whole(false, 0, false), (long) wide);
        CHECKS.due("whole half of " + wide, unit.whole(false, 0, true), (int) wide);
        CHECKS.due("whole of " + narrow, unit.whole(true, 0, false), (long) narrow);
        CHECKS.due("whole half of " + narrow, unit.whole(true, 0, true), (int) narrow);
    }

    private static long bits(float value) {
        return Float.floatToIntBits(value) & 0xFFFFFFFFL;
    }
}
