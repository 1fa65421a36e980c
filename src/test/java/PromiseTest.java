/** Each promise of the document by hand: ordinary inputs, the edges it names, wrong inputs. */
final class PromiseTest {
    private static final int INEXACT = 1, TINY = 2, HUGE = 4, BY_ZERO = 8, INVALID = 16;

    private static final long MINUS = 1L << 63;
    private static final long ONE = 0x3FF0000000000000L, TWO = 0x4000000000000000L;
    private static final long THREE = 0x4008000000000000L, HALF = 0x3FE0000000000000L;
    private static final long LEAST = 1, LEAST_USUAL = 0x0010000000000000L;
    private static final long GREATEST = 0x7FEFFFFFFFFFFFFFL, ENDLESS = 0x7FF0000000000000L;
    private static final long NONE = 0x7FF8000000000000L;

    private static final long N_MINUS = 1L << 31;
    private static final long N_ONE = 0x3F800000L, N_TWO = 0x40000000L, N_THREE = 0x40400000L;
    private static final long N_LEAST_USUAL = 0x00800000L, N_GREATEST = 0x7F7FFFFFL;
    private static final long N_ENDLESS = 0x7F800000L, N_NONE = 0x7FC00000L;
    /** Set above a NARROW number, where nothing may look. */
    private static final long NOISE = 0xDEADBEEFL << 32;

    private static final int[] NO_REGISTERS = {-1, 16, 17, Integer.MIN_VALUE, Integer.MAX_VALUE};

    private static final Checks CHECKS = new Checks("PromiseTest");

    public static void main(String[] args) {
        promise1NewObject();
        promise2Put();
        promise3Bits();
        promise4Mode();
        promise5Flags();
        promise6Sums();
        promise6Products();
        promise6Quotients();
        promise6Rests();
        promise6None();
        promise6Rounding();
        promise6Huge();
        promise6Tiny();
        promise6Registers();
        promise6Refusals();
        promise7Compare();
        promise8Of();
        promise9Whole();
        promise10Turn();
        promise11Kind();
        promise12Negate();
        refusalsChangeNothing();
        CHECKS.finish();
    }

    private static void due(String call, long got, long want) {
        CHECKS.due(call, got, want);
    }

    private static FloatUnit unit(int mode, long x, long y) {
        FloatUnit unit = new FloatUnit();
        unit.mode(mode);
        unit.put(1, x);
        unit.put(2, y);
        return unit;
    }

    private static String text(String call, long x, long y) {
        return call + " of 0x" + Long.toHexString(x) + ", 0x" + Long.toHexString(y);
    }

    private static void work(int op, boolean narrow, int mode, long x, long y, long want, int flags) {
        FloatUnit unit = unit(mode, x, y);
        String text = text("work " + op + (narrow ? " narrow" : "") + " mode " + mode, x, y);
        due(text, unit.work(op, narrow, 3, 1, 2), want);
        due(text + ": register", unit.bits(3), want);
        due(text + ": flags", unit.flags(0), flags);
    }

    private static void wide(int op, int mode, long x, long y, long want, int flags) {
        work(op, false, mode, x, y, want, flags);
    }

    private static void narrow(int op, int mode, long x, long y, long want, int flags) {
        work(op, true, mode, NOISE | x, NOISE | y, want, flags);
    }

    /** With the same answer in all modes. */
    private static void always(int op, long x, long y, long want, int flags) {
        for (int mode = 0; mode < 4; mode++) {
            wide(op, mode, x, y, want, flags);
        }
    }

    private static void promise1NewObject() {
        FloatUnit unit = new FloatUnit();
        due("new flags", unit.flags(0), 0);
        for (int r = 0; r < 16; r++) {
            due("new bits " + r, unit.bits(r), 0);
        }
        due("new mode", unit.mode(0), 0);
        unit.put(3, 77);
        unit.mode(2);
        unit.whole(false, 3, false);
        FloatUnit other = new FloatUnit();
        due("another object's register", other.bits(3), 0);
        due("another object's flags", other.flags(0), 0);
        due("another object's mode", other.mode(0), 0);
    }

    private static void promise2Put() {
        FloatUnit unit = new FloatUnit();
        for (int r = 0; r < 16; r++) {
            due("first put " + r, unit.put(r, -1L - r), 0);
        }
        for (int r = 0; r < 16; r++) {
            due("second put " + r, unit.put(r, Long.MIN_VALUE), -1L - r);
            due("bits after it " + r, unit.bits(r), Long.MIN_VALUE);
        }
        unit.put(0, 0x7FF0000000000001L);
        due("put leaves a NONE as it is", unit.bits(0), 0x7FF0000000000001L);
        for (int r : NO_REGISTERS) {
            CHECKS.refused("put " + r, () -> unit.put(r, 1));
        }
        due("put raises no flag", unit.flags(0), 0);
    }

    private static void promise3Bits() {
        FloatUnit unit = new FloatUnit();
        unit.put(15, Long.MAX_VALUE);
        unit.put(0, -2);
        due("bits 15", unit.bits(15), Long.MAX_VALUE);
        due("bits 15 again", unit.bits(15), Long.MAX_VALUE);
        due("bits 0", unit.bits(0), -2);
        due("bits 14", unit.bits(14), 0);
        for (int r : NO_REGISTERS) {
            CHECKS.refused("bits " + r, () -> unit.bits(r));
        }
    }

    private static void promise4Mode() {
        FloatUnit unit = new FloatUnit();
        due("mode 3", unit.mode(3), 0);
        due("mode 1", unit.mode(1), 3);
        for (int m : new int[] {-1, 4, 5, Integer.MIN_VALUE, Integer.MAX_VALUE}) {
            CHECKS.refused("mode " + m, () -> unit.mode(m));
        }
        due("mode 2 after refusals", unit.mode(2), 1);
        due("mode 2 again", unit.mode(2), 2);
        due("mode 0", unit.mode(0), 2);
        due("mode raises no flag", unit.flags(0), 0);
    }

    private static void promise5Flags() {
        FloatUnit unit = new FloatUnit();
        unit.put(1, ONE);
        unit.put(2, THREE);
        unit.put(4, LEAST);
        unit.put(5, GREATEST);
        unit.work(FloatUnit.DIVIDE, false, 3, 1, 2);
        due("INEXACT", unit.flags(0), INEXACT);
        unit.work(FloatUnit.ADD, false, 3, 1, 1);
        due("it stays", unit.flags(0), INEXACT);
        unit.work(FloatUnit.MULTIPLY, false, 3, 4, 4);
        due("TINY joins", unit.flags(0), INEXACT | TINY);
        unit.work(FloatUnit.ADD, false, 3, 5, 5);
        due("HUGE joins", unit.flags(0), INEXACT | TINY | HUGE);
        unit.work(FloatUnit.DIVIDE, false, 3, 1, 0);
        due("ZERO joins", unit.flags(0), 15);
        unit.work(FloatUnit.DIVIDE, false, 3, 0, 0);
        due("INVALID joins", unit.flags(~31), 31);
        due("other bits of the mask count for nothing", unit.flags(HUGE | 1 << 30), 31);
        due("one is taken away", unit.flags(TINY | INVALID), 27);
        due("two are taken away", unit.flags(HUGE), 9);
        due("one that is not there", unit.flags(Integer.MIN_VALUE), 9);
        due("all", unit.flags(-1), 9);
        due("none are left", unit.flags(0), 0);
        unit.work(FloatUnit.DIVIDE, false, 3, 1, 2);
        due("they come again", unit.flags(0), INEXACT);
    }

    private static void promise6Sums() {
        int add = FloatUnit.ADD;
        int subtract = FloatUnit.SUBTRACT;
        always(add, ONE, TWO, THREE, 0);
        always(subtract, THREE, TWO, ONE, 0);
        always(subtract, TWO, THREE, ONE | MINUS, 0);
        always(add, 0, LEAST, LEAST, 0);
        always(subtract, 0, LEAST, LEAST | MINUS, 0);
        always(subtract, LEAST_USUAL, LEAST, LEAST_USUAL - 1, 0);
        always(add, LEAST_USUAL - 1, LEAST, LEAST_USUAL, 0);
        for (int mode = 0; mode < 4; mode++) {
            long other = mode == 3 ? MINUS : 0;
            wide(add, mode, 0, 0, 0, 0);
            wide(add, mode, MINUS, MINUS, MINUS, 0);
            wide(add, mode, 0, MINUS, other, 0);
            wide(add, mode, MINUS, 0, other, 0);
            wide(add, mode, ONE, ONE | MINUS, other, 0);
            wide(add, mode, ONE | MINUS, ONE, other, 0);
            wide(subtract, mode, 0, 0, other, 0);
            wide(subtract, mode, 0, MINUS, 0, 0);
            wide(subtract, mode, MINUS, 0, MINUS, 0);
            wide(subtract, mode, MINUS, MINUS, other, 0);
            wide(subtract, mode, LEAST, LEAST, other, 0);
            narrow(subtract, mode, N_ONE, N_ONE, mode == 3 ? N_MINUS : 0, 0);
        }
        always(add, ENDLESS, ENDLESS, ENDLESS, 0);
        always(add, ENDLESS | MINUS, ENDLESS | MINUS, ENDLESS | MINUS, 0);
        always(add, ENDLESS, ENDLESS | MINUS, NONE, INVALID);
        always(subtract, ENDLESS, ENDLESS, NONE, INVALID);
        always(subtract, ENDLESS, ENDLESS | MINUS, ENDLESS, 0);
        always(subtract, ONE, ENDLESS, ENDLESS | MINUS, 0);
        always(add, GREATEST | MINUS, ENDLESS, ENDLESS, 0);
        always(add, ENDLESS | MINUS, GREATEST, ENDLESS | MINUS, 0);
        narrow(add, 0, N_ONE, N_TWO, N_THREE, 0);
        narrow(subtract, 0, N_ENDLESS, N_ENDLESS, N_NONE, INVALID);
        narrow(add, 0, N_ENDLESS | N_MINUS, N_ONE, N_ENDLESS | N_MINUS, 0);
        narrow(subtract, 0, N_TWO, N_ENDLESS, N_ENDLESS | N_MINUS, 0);
    }

    private static void promise6Products() {
        int op = FloatUnit.MULTIPLY;
        always(op, TWO, HALF, ONE, 0);
        always(op, TWO | MINUS, HALF, ONE | MINUS, 0);
        always(op, TWO | MINUS, HALF | MINUS, ONE, 0);
        always(op, LEAST, TWO, 2, 0);
        always(op, 0, ONE, 0, 0);
        always(op, 0, ONE | MINUS, MINUS, 0);
        always(op, MINUS, ONE, MINUS, 0);
        always(op, MINUS, MINUS, 0, 0);
        always(op, ENDLESS, 0, NONE, INVALID);
        always(op, MINUS, ENDLESS | MINUS, NONE, INVALID);
        always(op, ENDLESS, LEAST | MINUS, ENDLESS | MINUS, 0);
        always(op, LEAST | MINUS, ENDLESS | MINUS, ENDLESS, 0);
        always(op, ENDLESS, ENDLESS | MINUS, ENDLESS | MINUS, 0);
        narrow(op, 0, N_TWO, N_THREE, 0x40C00000L, 0);
        narrow(op, 0, N_ENDLESS, N_MINUS, N_NONE, INVALID);
        narrow(op, 0, N_MINUS, N_ONE, N_MINUS, 0);
    }

    private static void promise6Quotients() {
        int op = FloatUnit.DIVIDE;
        always(op, ONE, TWO, HALF, 0);
        always(op, ONE | MINUS, TWO, HALF | MINUS, 0);
        always(op, LEAST, LEAST, ONE, 0);
        always(op, 0, THREE | MINUS, MINUS, 0);
        always(op, MINUS, THREE | MINUS, 0, 0);
        always(op, ENDLESS, ENDLESS | MINUS, NONE, INVALID);
        always(op, ENDLESS, 0, ENDLESS, 0);
        always(op, ENDLESS, MINUS, ENDLESS | MINUS, 0);
        always(op, ENDLESS | MINUS, THREE, ENDLESS | MINUS, 0);
        always(op, GREATEST, ENDLESS, 0, 0);
        always(op, GREATEST, ENDLESS | MINUS, MINUS, 0);
        always(op, 0, ENDLESS | MINUS, MINUS, 0);
        always(op, 0, 0, NONE, INVALID);
        always(op, MINUS, 0, NONE, INVALID);
        always(op, LEAST, 0, ENDLESS, BY_ZERO);
        always(op, LEAST, MINUS, ENDLESS | MINUS, BY_ZERO);
        always(op, GREATEST | MINUS, MINUS, ENDLESS, BY_ZERO);
        narrow(op, 0, N_THREE, N_TWO, 0x3FC00000L, 0);
        narrow(op, 0, N_ONE | N_MINUS, 0, N_ENDLESS | N_MINUS, BY_ZERO);
        narrow(op, 0, 0, N_MINUS, N_NONE, INVALID);
    }

    private static void promise6Rests() {
        int op = FloatUnit.REST;
        always(op, THREE, TWO, ONE, 0);
        always(op, THREE | MINUS, TWO, ONE | MINUS, 0);
        always(op, THREE, TWO | MINUS, ONE, 0);
        always(op, TWO, THREE, TWO, 0);
        always(op, TWO | MINUS, ONE, MINUS, 0);
        always(op, TWO, ONE | MINUS, 0, 0);
        always(op, 0, THREE, 0, 0);
        always(op, MINUS, THREE, MINUS, 0);
        // 2 ** 1023 is 2 more than a multiple of 3, and so is 2 ** -1073 in units of 2 ** -1074
        always(op, 0x7FE0000000000000L, THREE, TWO, 0);
        always(op, 0x7FE0000000000000L, LEAST + 2, 2, 0);
        always(op, GREATEST, LEAST, 0, 0);
        always(op, GREATEST | MINUS, LEAST, MINUS, 0);
        always(op, LEAST, GREATEST, LEAST, 0);
        always(op, LEAST_USUAL + 1, LEAST_USUAL, LEAST, 0);
        always(op, ENDLESS, THREE, NONE, INVALID);
        always(op, ENDLESS | MINUS, ENDLESS, NONE, INVALID);
        always(op, ENDLESS, 0, NONE, INVALID);
        always(op, THREE, 0, NONE, INVALID);
        always(op, 0, MINUS, NONE, INVALID);
        always(op, THREE | MINUS, ENDLESS, THREE | MINUS, 0);
        always(op, MINUS, ENDLESS | MINUS, MINUS, 0);
        narrow(op, 0, N_THREE | N_MINUS, N_TWO, N_ONE | N_MINUS, 0);
        narrow(op, 0, N_THREE, N_ENDLESS, N_THREE, 0);
        narrow(op, 0, N_ONE, N_TWO, N_ONE, 0);
        narrow(op, 0, N_ONE, N_MINUS, N_NONE, INVALID);
    }

    private static void promise6None() {
        long[] nones = {NONE, NONE | MINUS, ENDLESS + 1, -1L};
        long[] others = {0, MINUS, ONE, LEAST, ENDLESS, ENDLESS | MINUS, NONE};
        for (int op = 0; op <= 4; op++) {
            for (long none : nones) {
                for (long other : others) {
                    always(op, none, other, NONE, 0);
                    always(op, other, none, NONE, 0);
                }
            }
            narrow(op, 0, N_ENDLESS + 1, 0, N_NONE, 0);
            narrow(op, 0, N_ENDLESS, 0xFFFFFFFFL, N_NONE, 0);
        }
    }

    private static void promise6Rounding() {
        int op = FloatUnit.ADD;
        long unit = 0x3CB0000000000000L;
        long half = 0x3CA0000000000000L;
        long[] down = {ONE, ONE, ONE + 1, ONE};
        long[] tie = {ONE + 2, ONE + 1, ONE + 2, ONE + 1};
        long[] above = {ONE + 1, ONE, ONE + 1, ONE};
        for (int mode = 0; mode < 4; mode++) {
            int other = mode == 2 ? 3 : mode == 3 ? 2 : mode;
            wide(op, mode, ONE, unit, ONE + 1, 0);
            wide(op, mode, ONE, half, down[mode], INEXACT);
            wide(op, mode, ONE + 1, half, tie[mode], INEXACT);
            wide(op, mode, ONE, half + 1, above[mode], INEXACT);
            wide(op, mode, ONE, LEAST, down[mode], INEXACT);
            wide(op, other, ONE | MINUS, half | MINUS, down[mode] | MINUS, INEXACT);
            wide(op, other, ONE + 1 | MINUS, half | MINUS, tie[mode] | MINUS, INEXACT);
            wide(op, other, ONE | MINUS, LEAST | MINUS, down[mode] | MINUS, INEXACT);
        }
        long[] below = {TWO, TWO - 1, TWO, TWO - 1};
        long[] third = {0x3EAAAAABL, 0x3EAAAAAAL, 0x3EAAAAABL, 0x3EAAAAAAL};
        for (int mode = 0; mode < 4; mode++) {
            wide(FloatUnit.SUBTRACT, mode, TWO, LEAST, below[mode], INEXACT);
            wide(FloatUnit.SUBTRACT, mode, TWO, half, below[mode], INEXACT);
            narrow(FloatUnit.DIVIDE, mode, N_ONE, N_THREE, third[mode], INEXACT);
        }
    }

    private static void promise6Huge() {
        int add = FloatUnit.ADD;
        long halfUnit = 0x7C90000000000000L;
        long power1023 = 0x7FE0000000000000L;
        int flags = HUGE | INEXACT;
        long[] above = {ENDLESS, GREATEST, ENDLESS, GREATEST};
        long[] minus = {ENDLESS | MINUS, GREATEST | MINUS, GREATEST | MINUS, ENDLESS | MINUS};
        for (int mode = 0; mode < 4; mode++) {
            wide(add, mode, GREATEST, GREATEST, above[mode], flags);
            wide(add, mode, GREATEST | MINUS, GREATEST | MINUS, minus[mode], flags);
            // 2 ** 1024 itself is exact, and huge all the same
            wide(add, mode, power1023, power1023, above[mode], flags);
            wide(FloatUnit.MULTIPLY, mode, GREATEST, GREATEST | MINUS, minus[mode], flags);
            wide(FloatUnit.DIVIDE, mode, GREATEST, LEAST, above[mode], flags);
            boolean toEndless = above[mode] == ENDLESS;
            wide(add, mode, GREATEST, halfUnit, above[mode], toEndless ? flags : INEXACT);
            narrow(add, mode, N_GREATEST, N_GREATEST,
                    toEndless ? N_ENDLESS : N_GREATEST, flags);
        }
        wide(add, 0, GREATEST, halfUnit - 1, GREATEST, INEXACT);
        wide(add, 2, GREATEST, LEAST, ENDLESS, flags);
        wide(add, 3, GREATEST | MINUS, LEAST | MINUS, ENDLESS | MINUS, flags);
        wide(add, 2, GREATEST | MINUS, LEAST | MINUS, GREATEST | MINUS, INEXACT);
    }

    private static void promise6Tiny() {
        int multiply = FloatUnit.MULTIPLY;
        int flags = TINY | INEXACT;
        long[] toZero = {0, 0, LEAST, 0};
        long[] toMinusZero = {MINUS, MINUS, MINUS, LEAST | MINUS};
        for (int mode = 0; mode < 4; mode++) {
            wide(multiply, mode, LEAST, LEAST, toZero[mode], flags);
            wide(multiply, mode, LEAST, LEAST | MINUS, toMinusZero[mode], flags);
            wide(multiply, mode, LEAST, HALF, toZero[mode], flags);
            wide(FloatUnit.DIVIDE, mode, LEAST, GREATEST, toZero[mode], flags);
            // exact numbers below the least exponent raise nothing
            wide(multiply, mode, LEAST_USUAL, HALF, LEAST_USUAL >> 1, 0);
        }
        wide(multiply, 0, LEAST, HALF + 1, LEAST, flags);
        wide(multiply, 0, 3, HALF, 2, flags);
        // what reaches the least usual number by rounding has x 1 then, so it is not TINY
        long justBelowOne = ONE - 1;
        wide(multiply, 0, LEAST_USUAL, justBelowOne, LEAST_USUAL, INEXACT);
        wide(multiply, 2, LEAST_USUAL, justBelowOne, LEAST_USUAL, INEXACT);
        wide(multiply, 1, LEAST_USUAL, justBelowOne, LEAST_USUAL - 1, flags);
        narrow(multiply, 0, N_LEAST_USUAL, N_ONE - 1, N_LEAST_USUAL, INEXACT);
        narrow(multiply, 3, N_LEAST_USUAL, N_ONE - 1, N_LEAST_USUAL - 1, flags);
        narrow(multiply, 0, N_MINUS | 1, 1, N_MINUS, flags);
    }

    private static void promise6Registers() {
        FloatUnit unit = unit(0, THREE, TWO);
        due("to is x", unit.work(FloatUnit.SUBTRACT, false, 1, 1, 2), ONE);
        due("to is y", unit.work(FloatUnit.SUBTRACT, false, 2, 1, 2), ONE | MINUS);
        due("x", unit.bits(1), ONE);
        due("y", unit.bits(2), ONE | MINUS);
        due("all are one", unit.work(FloatUnit.ADD, false, 1, 1, 1), TWO);
        unit.put(15, ONE);
        due("the last register", unit.work(FloatUnit.ADD, false, 15, 15, 0), ONE);
        unit.put(4, NOISE | N_ONE);
        unit.put(5, -1);
        due("NARROW", unit.work(FloatUnit.ADD, true, 5, 4, 4), N_TWO);
        due("NARROW leaves the upper bits 0", unit.bits(5), N_TWO);
        due("x is left as it was", unit.bits(4), NOISE | N_ONE);
    }

    private static void promise6Refusals() {
        FloatUnit unit = new FloatUnit();
        for (int r : NO_REGISTERS) {
            for (int op = 0; op <= 4; op++) {
                int asked = op;
                CHECKS.refused("work to " + r, () -> unit.work(asked, false, r, 0, 0));
                CHECKS.refused("work x " + r, () -> unit.work(asked, true, 0, r, 0));
                CHECKS.refused("work y " + r, () -> unit.work(asked, false, 0, 0, r));
            }
        }
        for (int op : new int[] {-1, 5, 6, Integer.MIN_VALUE, Integer.MAX_VALUE}) {
            CHECKS.refused("work op " + op, () -> unit.work(op, false, 0, 0, 0));
        }
    }

    private static void compare(boolean narrow, long x, long y, int ifNone, int want) {
        for (int mode = 0; mode < 4; mode++) {
            FloatUnit unit = unit(mode, x, y);
            due(text("compare", x, y), unit.compare(narrow, 1, 2, ifNone), want);
            due(text("compare's flags", x, y), unit.flags(0), 0);
        }
    }

    private static void promise7Compare() {
        long[] rising = {ENDLESS | MINUS, GREATEST | MINUS, TWO | MINUS, ONE | MINUS,
            LEAST_USUAL | MINUS, LEAST | MINUS, 0, LEAST, LEAST_USUAL - 1, LEAST_USUAL, ONE,
            ONE + 1, TWO, GREATEST, ENDLESS};
        for (int i = 0; i < rising.length; i++) {
            for (int j = 0; j < rising.length; j++) {
                compare(false, rising[i], rising[j], 9, Integer.compare(i, j));
            }
        }
        compare(false, 0, MINUS, 9, 0);
        compare(false, MINUS, 0, 9, 0);
        compare(false, MINUS, LEAST, 9, -1);
        for (int ifNone : new int[] {7, -1, 0, Integer.MIN_VALUE, Integer.MAX_VALUE}) {
            compare(false, NONE, NONE, ifNone, ifNone);
            compare(false, -1L, ENDLESS, ifNone, ifNone);
            compare(false, 0, ENDLESS + 1, ifNone, ifNone);
            compare(true, NOISE | N_ENDLESS + 1, N_ONE, ifNone, ifNone);
        }
        compare(true, NOISE | N_ONE, N_ONE, 9, 0);
        compare(true, NOISE | N_ONE, N_TWO, 9, -1);
        compare(true, NOISE, N_MINUS, 9, 0);
        compare(true, N_ENDLESS, NOISE | N_GREATEST, 9, 1);
        compare(true, N_TWO | N_MINUS, N_ONE | N_MINUS, 9, -1);
        FloatUnit unit = new FloatUnit();
        for (int r : NO_REGISTERS) {
            CHECKS.refused("compare x " + r, () -> unit.compare(false, r, 0, 9));
            CHECKS.refused("compare y " + r, () -> unit.compare(true, 0, r, 9));
        }
        unit.put(0, NONE);
        CHECKS.refused("compare looks at the registers first", () -> unit.compare(false, 0, 16, 9));
    }

    private static void of(boolean narrow, int mode, long v, long want, int flags) {
        FloatUnit unit = unit(mode, 0, 0);
        unit.put(7, -1);
        String text = "of " + v + (narrow ? " narrow" : "") + " mode " + mode;
        due(text, unit.of(narrow, 7, v), want);
        due(text + ": register", unit.bits(7), want);
        due(text + ": flags", unit.flags(0), flags);
    }

    private static void promise8Of() {
        long two53 = 0x4340000000000000L;
        long two63 = 0x43E0000000000000L;
        for (int mode = 0; mode < 4; mode++) {
            of(false, mode, 0, 0, 0);
            of(true, mode, 0, 0, 0);
            of(false, mode, 3, THREE, 0);
            of(false, mode, -1, ONE | MINUS, 0);
            of(true, mode, -3, N_THREE | N_MINUS, 0);
            of(false, mode, Long.MIN_VALUE, two63 | MINUS, 0);
            of(true, mode, Long.MIN_VALUE, 0x5F000000L | N_MINUS, 0);
            of(false, mode, 1L << 62, 0x43D0000000000000L, 0);
            long up = mode == 0 || mode == 2 ? 1 : 0;
            of(false, mode, Long.MAX_VALUE, two63 - 1 + up, INEXACT);
            of(true, mode, Long.MAX_VALUE, 0x5EFFFFFFL + up, INEXACT);
            long away = mode == 0 || mode == 3 ? 1 : 0;
            of(false, mode, Long.MIN_VALUE + 1, two63 - 1 + away | MINUS, INEXACT);
            of(false, mode, (1L << 53) + 1, mode == 2 ? two53 + 1 : two53, INEXACT);
            of(false, mode, -(1L << 53) - 3,
                    (mode == 1 || mode == 2 ? two53 + 1 : two53 + 2) | MINUS, INEXACT);
            of(true, mode, (1L << 24) + 1, mode == 2 ? 0x4B800001L : 0x4B800000L, INEXACT);
        }
        FloatUnit unit = new FloatUnit();
        for (int r : NO_REGISTERS) {
            CHECKS.refused("of to " + r, () -> unit.of(false, r, 0));
            CHECKS.refused("of narrow to " + r, () -> unit.of(true, r, 5));
        }
    }

    private static void whole(boolean narrow, long x, boolean half, long want, int flags) {
        for (int mode = 0; mode < 4; mode++) {
            FloatUnit unit = unit(mode, x, 0);
            String text = text("whole" + (half ? " half" : ""), x, mode);
            due(text, unit.whole(narrow, 1, half), want);
            due(text + ": register", unit.bits(1), x);
            due(text + ": flags", unit.flags(0), flags);
        }
    }

    private static void bothSizes(long x, long want, int flags) {
        whole(false, x, false, want, flags);
        whole(false, x, true, want, flags);
    }

    private static void promise9Whole() {
        bothSizes(0, 0, 0);
        bothSizes(MINUS, 0, 0);
        bothSizes(THREE, 3, 0);
        bothSizes(THREE | MINUS, -3, 0);
        bothSizes(0x3FFFFFFFFFFFFFFFL, 1, INEXACT);
        bothSizes(0xBFFFFFFFFFFFFFFFL, -1, INEXACT);
        bothSizes(HALF, 0, INEXACT);
        bothSizes(HALF | MINUS, 0, INEXACT);
        bothSizes(LEAST, 0, INEXACT);
        bothSizes(LEAST_USUAL | MINUS, 0, INEXACT);
        bothSizes(NONE, 0, INVALID);
        bothSizes(-1L, 0, INVALID);
        long[] large = {GREATEST, ENDLESS, 0x43F0000000000000L, 0x47E0000000000000L};
        for (long x : large) {
            whole(false, x, false, Long.MAX_VALUE, INVALID);
            whole(false, x | MINUS, false, Long.MIN_VALUE, INVALID);
            whole(false, x, true, Integer.MAX_VALUE, INVALID);
            whole(false, x | MINUS, true, Integer.MIN_VALUE, INVALID);
        }
        long two63 = 0x43E0000000000000L;
        whole(false, two63 - 1, false, Long.MAX_VALUE - 1023, 0);
        whole(false, two63 - 1 | MINUS, false, Long.MIN_VALUE + 1024, 0);
        whole(false, two63, false, Long.MAX_VALUE, INVALID);
        whole(false, two63 | MINUS, false, Long.MIN_VALUE, 0);
        whole(false, two63 + 1 | MINUS, false, Long.MIN_VALUE, INVALID);
        long two31 = 0x41E0000000000000L;
        whole(false, two31 - 1, true, Integer.MAX_VALUE, INEXACT);
        whole(false, 0x41DFFFFFFFC00000L, true, Integer.MAX_VALUE, 0);
        whole(false, two31, true, Integer.MAX_VALUE, INVALID);
        whole(false, two31 | MINUS, true, Integer.MIN_VALUE, 0);
        whole(false, two31 + 1 | MINUS, true, Integer.MIN_VALUE, INEXACT);
        whole(false, 0x41E0000000200000L | MINUS, true, Integer.MIN_VALUE, INVALID);
        whole(false, two31, false, 1L << 31, 0);
        whole(true, NOISE | N_THREE, true, 3, 0);
        whole(true, NOISE | 0x5F000000L | N_MINUS, false, Long.MIN_VALUE, 0);
        whole(true, NOISE | 0x5F000000L, false, Long.MAX_VALUE, INVALID);
        whole(true, NOISE | N_ENDLESS | N_MINUS, true, Integer.MIN_VALUE, INVALID);
        whole(true, NOISE | N_NONE, false, 0, INVALID);
        whole(true, NOISE | 1, false, 0, INEXACT);
        whole(true, NOISE, false, 0, 0);
        FloatUnit unit = new FloatUnit();
        for (int r : NO_REGISTERS) {
            CHECKS.refused("whole x " + r, () -> unit.whole(false, r, false));
            CHECKS.refused("whole narrow x " + r, () -> unit.whole(true, r, true));
        }
    }

    private static void turn(boolean narrow, int mode, long x, long want, int flags) {
        FloatUnit unit = unit(mode, x, 0);
        unit.put(3, -1);
        String text = text("turn" + (narrow ? " narrow" : ""), x, mode);
        due(text, unit.turn(narrow, 3, 1), want);
        due(text + ": register", unit.bits(3), want);
        due(text + ": flags", unit.flags(0), flags);
    }

    private static void turnBoth(long wide, long narrow) {
        for (int mode = 0; mode < 4; mode++) {
            turn(false, mode, wide, narrow, 0);
            turn(true, mode, NOISE | narrow, wide, 0);
        }
    }

    private static void promise10Turn() {
        turnBoth(0, 0);
        turnBoth(MINUS, N_MINUS);
        turnBoth(THREE, N_THREE);
        turnBoth(ONE | MINUS, N_ONE | N_MINUS);
        turnBoth(ENDLESS, N_ENDLESS);
        turnBoth(ENDLESS | MINUS, N_ENDLESS | N_MINUS);
        turnBoth(NONE, N_NONE);
        turnBoth(0x36A0000000000000L, 1);
        turnBoth(0x380FFFFFC0000000L, N_LEAST_USUAL - 1);
        turnBoth(0x47EFFFFFE0000000L, N_GREATEST);
        int tiny = TINY | INEXACT;
        int huge = HUGE | INEXACT;
        for (int mode = 0; mode < 4; mode++) {
            turn(false, mode, -1L, N_NONE, 0);
            turn(true, mode, N_ENDLESS + 1, NONE, 0);
            turn(true, mode, N_NONE | N_MINUS, NONE, 0);
            turn(false, mode, ONE + 1, mode == 2 ? N_ONE + 1 : N_ONE, INEXACT);
            turn(false, mode, LEAST, mode == 2 ? 1 : 0, tiny);
            turn(false, mode, LEAST | MINUS, mode == 3 ? N_MINUS | 1 : N_MINUS, tiny);
            boolean up = mode == 0 || mode == 2;
            turn(false, mode, GREATEST, up ? N_ENDLESS : N_GREATEST, huge);
            turn(false, mode, 0x47F0000000000000L, up ? N_ENDLESS : N_GREATEST, huge);
            turn(false, mode, 0x47EFFFFFF0000000L, up ? N_ENDLESS : N_GREATEST, up ? huge : INEXACT);
            turn(false, mode, 0x380FFFFFFFFFFFFFL, up ? N_LEAST_USUAL : N_LEAST_USUAL - 1,
                    up ? INEXACT : tiny);
        }
        FloatUnit unit = unit(0, THREE, 0);
        due("turn in place", unit.turn(false, 1, 1), N_THREE);
        due("and back", unit.turn(true, 1, 1), THREE);
        for (int r : NO_REGISTERS) {
            CHECKS.refused("turn to " + r, () -> unit.turn(false, r, 0));
            CHECKS.refused("turn x " + r, () -> unit.turn(true, 0, r));
        }
    }

    private static void kind(boolean narrow, long x, long minus, int want) {
        FloatUnit unit = unit(0, x, x | minus);
        due(text("kind", x, 0), unit.kind(narrow, 1), want);
        due(text("kind", x | minus, 0), unit.kind(narrow, 2), want + 8);
        due(text("kind's flags", x, 0), unit.flags(0), 0);
    }

    private static void promise11Kind() {
        kind(false, NONE, MINUS, 0);
        kind(false, ENDLESS + 1, MINUS, 0);
        kind(false, ENDLESS, MINUS, 1);
        kind(false, GREATEST, MINUS, 2);
        kind(false, ONE, MINUS, 2);
        kind(false, LEAST_USUAL, MINUS, 2);
        kind(false, LEAST_USUAL - 1, MINUS, 3);
        kind(false, LEAST, MINUS, 3);
        kind(false, 0, MINUS, 4);
        kind(true, NOISE | N_NONE, N_MINUS, 0);
        kind(true, NOISE | N_ENDLESS + 1, N_MINUS, 0);
        kind(true, NOISE | N_ENDLESS, N_MINUS, 1);
        kind(true, NOISE | N_GREATEST, N_MINUS, 2);
        kind(true, NOISE | N_LEAST_USUAL, N_MINUS, 2);
        kind(true, NOISE | N_LEAST_USUAL - 1, N_MINUS, 3);
        kind(true, NOISE, N_MINUS, 4);
        FloatUnit unit = new FloatUnit();
        for (int r : NO_REGISTERS) {
            CHECKS.refused("kind x " + r, () -> unit.kind(false, r));
            CHECKS.refused("kind narrow x " + r, () -> unit.kind(true, r));
        }
    }

    private static void negate(boolean narrow, long x, long want) {
        FloatUnit unit = unit(3, x, 0);
        unit.put(3, -1);
        due(text("negate", x, 0), unit.negate(narrow, 3, 1), want);
        due(text("negate's register", x, 0), unit.bits(3), want);
        due(text("negate's x", x, 0), unit.bits(1), x);
        due(text("negate's flags", x, 0), unit.flags(0), 0);
    }

    private static void promise12Negate() {
        for (long x : new long[] {0, LEAST, LEAST_USUAL, ONE, GREATEST, ENDLESS}) {
            negate(false, x, x | MINUS);
            negate(false, x | MINUS, x);
        }
        for (long x : new long[] {0, 1, N_LEAST_USUAL, N_ONE, N_GREATEST, N_ENDLESS}) {
            negate(true, NOISE | x, x | N_MINUS);
            negate(true, NOISE | x | N_MINUS, x);
        }
        for (long none : new long[] {NONE, NONE | MINUS, ENDLESS + 1, -1L}) {
            negate(false, none, NONE);
        }
        for (long none : new long[] {N_NONE, N_NONE | N_MINUS, N_ENDLESS + 1, 0xFFFFFFFFL}) {
            negate(true, NOISE | none, N_NONE);
        }
        FloatUnit unit = unit(0, ONE, 0);
        due("negate in place", unit.negate(false, 1, 1), ONE | MINUS);
        for (int r : NO_REGISTERS) {
            CHECKS.refused("negate to " + r, () -> unit.negate(false, r, 0));
            CHECKS.refused("negate x " + r, () -> unit.negate(true, 0, r));
        }
    }

    /** What is refused leaves registers, mode and flags alone, even where it would have raised one. */
    private static void refusalsChangeNothing() {
        FloatUnit unit = unit(2, ENDLESS, NONE);
        CHECKS.refused("put", () -> unit.put(16, 5));
        CHECKS.refused("work op", () -> unit.work(5, false, 1, 1, 1));
        CHECKS.refused("work y", () -> unit.work(FloatUnit.SUBTRACT, false, 1, 1, 16));
        CHECKS.refused("work to", () -> unit.work(FloatUnit.SUBTRACT, false, -1, 1, 1));
        CHECKS.refused("of", () -> unit.of(true, 16, Long.MAX_VALUE));
        CHECKS.refused("turn", () -> unit.turn(false, 16, 1));
        CHECKS.refused("negate", () -> unit.negate(false, 1, 16));
        CHECKS.refused("whole", () -> unit.whole(false, 16, false));
        CHECKS.refused("mode", () -> unit.mode(4));
        due("flags", unit.flags(0), 0);
        due("register 1", unit.bits(1), ENDLESS);
        due("register 2", unit.bits(2), NONE);
        due("mode", unit.mode(0), 2);
    }
}
