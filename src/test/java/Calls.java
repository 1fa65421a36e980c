/**
 * Asks one call of a new object and looks at its answer, the register that it went to, those
 * that it came from and the flags. NARROW operands have bits above them that nothing may see.
 */
final class Calls {
    static final int INEXACT = 1, TINY = 2, HUGE = 4, BY_ZERO = 8, INVALID = 16;

    /** Minus and NONE where WIDE would look for them. */
    static final long NOISE = 0xFFF8BEEFL << 32;

    private static final int TO = 3, X = 1, Y = 2;

    private final Checks checks;

    Calls(Checks checks) {
        this.checks = checks;
    }

    static long operand(Numbers n, long bits) {
        return n.narrow ? NOISE | bits : bits;
    }

    /** A new object with x and y in registers 1 and 2, and in the others what may not stay. */
    static FloatUnit unit(Numbers n, int mode, long x, long y) {
        FloatUnit unit = new FloatUnit();
        unit.mode(mode);
        unit.put(TO, -1);
        unit.put(X, operand(n, x));
        unit.put(Y, operand(n, y));
        return unit;
    }

    private static String text(String call, Numbers n, int mode, long x, long y) {
        return n + " mode " + mode + " " + call + " 0x" + Long.toHexString(x) + " 0x"
                + Long.toHexString(y);
    }

    private void settle(String text, FloatUnit unit, long got, long want, int flags) {
        checks.due(text, got, want);
        checks.due(text + ": register", unit.bits(TO), want);
        checks.due(text + ": flags", unit.flags(0), flags);
    }

    void work(Numbers n, int op, int mode, long x, long y, long want, int flags) {
        FloatUnit unit = unit(n, mode, x, y);
        String text = text("op " + op, n, mode, x, y);
        settle(text, unit, unit.work(op, n.narrow, TO, X, Y), want, flags);
        checks.due(text + ": x", unit.bits(X), operand(n, x));
        checks.due(text + ": y", unit.bits(Y), operand(n, y));
    }

    /** With the same answer in all modes. */
    void always(Numbers n, int op, long x, long y, long want, int flags) {
        for (int mode = 0; mode < 4; mode++) {
            work(n, op, mode, x, y, want, flags);
        }
    }

    void turn(Numbers from, int mode, long x, long want, int flags) {
        FloatUnit unit = unit(from, mode, x, 0);
        settle(text("turn", from, mode, x, 0), unit, unit.turn(from.narrow, TO, X), want, flags);
        checks.due("turn: x", unit.bits(X), operand(from, x));
    }

    void of(Numbers n, int mode, long v, long want, int flags) {
        FloatUnit unit = unit(n, mode, 0, 0);
        settle(text("of", n, mode, v, 0), unit, unit.of(n.narrow, TO, v), want, flags);
    }

    void negate(Numbers n, int mode, long x, long want) {
        FloatUnit unit = unit(n, mode, x, 0);
        settle(text("negate", n, mode, x, 0), unit, unit.negate(n.narrow, TO, X), want, 0);
        checks.due("negate: x", unit.bits(X), operand(n, x));
    }

    /** In all modes, as none of them may count. */
    void whole(Numbers n, long x, boolean half, long want, int flags) {
        for (int mode = 0; mode < 4; mode++) {
            FloatUnit unit = unit(n, mode, x, 0);
            String text = text(half ? "whole half" : "whole", n, mode, x, 0);
            checks.due(text, unit.whole(n.narrow, X, half), want);
            checks.due(text + ": flags", unit.flags(0), flags);
            checks.due(text + ": x", unit.bits(X), operand(n, x));
        }
    }

    /** In all modes, as none of them may count. */
    void compare(Numbers n, long x, long y, int ifNone, int want) {
        for (int mode = 0; mode < 4; mode++) {
            FloatUnit unit = unit(n, mode, x, y);
            String text = text("compare", n, mode, x, y);
            checks.due(text, unit.compare(n.narrow, X, Y, ifNone), want);
            checks.due(text + ": flags", unit.flags(0), 0);
            checks.due(text + ": x", unit.bits(X), operand(n, x));
            checks.due(text + ": y", unit.bits(Y), operand(n, y));
        }
    }

    void kind(Numbers n, long x, int want) {
        FloatUnit unit = unit(n, 0, x, 0);
        String text = text("kind", n, 0, x, 0);
        checks.due(text, unit.kind(n.narrow, X), want);
        checks.due(text + ": flags", unit.flags(0), 0);
        checks.due(text + ": x", unit.bits(X), operand(n, x));
    }
}
