/** Promises 1 to 4: a new object, put, bits, mode; and what may be asked of one object. */
final class StateTest {
    private static final Checks CHECKS = new Checks("StateTest");

    public static void main(String[] args) {
        CHECKS.sentence("Promise 1: All REGISTERS 0", StateTest::newRegisters);
        CHECKS.sentence("Promise 1: MODE 0", StateTest::newMode);
        CHECKS.sentence("Promise 1: no FLAGS", StateTest::newFlags);
        CHECKS.sentence("Promise 1: each object for itself", StateTest::ownState);
        CHECKS.sentence("Promise 2: REGISTER r has these bits", StateTest::putBits);
        CHECKS.sentence("Promise 2: what it had", StateTest::putTellsWhatItHad);
        CHECKS.sentence("Promise 3: The bits of REGISTER r", StateTest::bits);
        CHECKS.sentence("Promise 4: MODE m (0..3)", StateTest::modes);
        CHECKS.sentence("Promise 4: what it was", StateTest::modeTellsWhatItWas);
        CHECKS.sentence("Promise 4: IllegalArgumentException: m", StateTest::modeRefuses);
        CHECKS.sentence("The constants", StateTest::constants);
        CHECKS.sentence("An object is used for at most 512 calls", StateTest::manyCalls);
        CHECKS.finish();
    }

    private static void newRegisters() {
        FloatUnit unit = new FloatUnit();
        for (int r = 0; r < 16; r++) {
            CHECKS.due("bits " + r, unit.bits(r), 0);
            CHECKS.due("kind " + r, unit.kind(false, r), 4);
            CHECKS.due("kind narrow " + r, unit.kind(true, r), 4);
        }
    }

    private static void newMode() {
        for (int m = 0; m < 4; m++) {
            CHECKS.due("mode " + m, new FloatUnit().mode(m), 0);
        }
        // the half goes to the even one below, and the next half to the even one above
        FloatUnit unit = new FloatUnit();
        CHECKS.due("a half", unit.of(false, 0, (1L << 53) + 1), Numbers.WIDE.power(53));
        CHECKS.due("the next half", unit.of(false, 0, (1L << 53) + 3), Numbers.WIDE.power(53) + 2);
    }

    private static void newFlags() {
        CHECKS.due("flags 0", new FloatUnit().flags(0), 0);
        CHECKS.due("flags -1", new FloatUnit().flags(-1), 0);
    }

    private static void ownState() {
        FloatUnit first = new FloatUnit();
        FloatUnit second = new FloatUnit();
        for (int r = 0; r < 16; r++) {
            first.put(r, -1);
        }
        first.mode(3);
        first.whole(false, 0, false);
        CHECKS.due("the first's flags", first.flags(0), Calls.INVALID);
        for (FloatUnit other : new FloatUnit[] {second, new FloatUnit()}) {
            CHECKS.due("flags", other.flags(0), 0);
            CHECKS.due("mode", other.mode(0), 0);
            for (int r = 0; r < 16; r++) {
                CHECKS.due("bits " + r, other.bits(r), 0);
            }
        }
    }

    private static void putBits() {
        long[] patterns = {0, 1, -1, Long.MIN_VALUE, Long.MAX_VALUE, 0x7FF0000000000001L,
            0xFFF8000000000000L, 0xFFFFFFFFL, -1L << 32};
        for (int r = 0; r < 16; r++) {
            FloatUnit unit = new FloatUnit();
            for (long pattern : patterns) {
                unit.put(r, pattern);
                CHECKS.due("bits " + r, unit.bits(r), pattern);
            }
            CHECKS.due("flags", unit.flags(0), 0);
        }
    }

    private static void putTellsWhatItHad() {
        FloatUnit unit = new FloatUnit();
        for (int r = 0; r < 16; r++) {
            CHECKS.due("first put " + r, unit.put(r, -1L - r), 0);
        }
        for (int r = 0; r < 16; r++) {
            CHECKS.due("second put " + r, unit.put(r, Long.MIN_VALUE + r), -1L - r);
            CHECKS.due("third put " + r, unit.put(r, Long.MIN_VALUE + r), Long.MIN_VALUE + r);
        }
        unit.of(false, 7, 1);
        CHECKS.due("put after of", unit.put(7, 0), Numbers.WIDE.one);
    }

    private static void bits() {
        FloatUnit unit = new FloatUnit();
        for (int r = 0; r < 16; r++) {
            unit.put(r, ~(1L << r));
        }
        for (int r = 15; r >= 0; r--) {
            CHECKS.due("bits " + r, unit.bits(r), ~(1L << r));
            CHECKS.due("bits again " + r, unit.bits(r), ~(1L << r));
        }
        CHECKS.due("flags", unit.flags(0), 0);
    }

    private static void modes() {
        long low = Numbers.WIDE.power(53);
        for (int m = 0; m < 4; m++) {
            FloatUnit unit = new FloatUnit();
            unit.mode(m);
            CHECKS.due("2 ** 53 + 1 in mode " + m, unit.of(false, 0, (1L << 53) + 1),
                    m == 2 ? low + 1 : low);
            CHECKS.due("-(2 ** 53 + 1) in mode " + m, unit.of(false, 0, -(1L << 53) - 1),
                    Long.MIN_VALUE | (m == 3 ? low + 1 : low));
            CHECKS.due("2 ** 53 + 3 in mode " + m, unit.of(false, 0, (1L << 53) + 3),
                    m == 0 || m == 2 ? low + 2 : low + 1);
        }
    }

    private static void modeTellsWhatItWas() {
        for (int m = 0; m < 4; m++) {
            for (int next = 0; next < 4; next++) {
                FloatUnit unit = new FloatUnit();
                unit.mode(m);
                CHECKS.due("mode " + next + " after " + m, unit.mode(next), m);
                CHECKS.due("mode 0 after " + next, unit.mode(0), next);
                CHECKS.due("flags", unit.flags(0), 0);
            }
        }
    }

    private static void modeRefuses() {
        for (int m = 0; m < 4; m++) {
            FloatUnit unit = new FloatUnit();
            unit.mode(m);
            for (int wrong : new int[] {-1, 4, 5, 7, Integer.MIN_VALUE, Integer.MAX_VALUE}) {
                CHECKS.refused("mode " + wrong, () -> unit.mode(wrong));
                CHECKS.due("the mode stays", unit.mode(m), m);
            }
        }
    }

    private static void constants() {
        CHECKS.due("ADD", FloatUnit.ADD, 0);
        CHECKS.due("SUBTRACT", FloatUnit.SUBTRACT, 1);
        CHECKS.due("MULTIPLY", FloatUnit.MULTIPLY, 2);
        CHECKS.due("DIVIDE", FloatUnit.DIVIDE, 3);
        CHECKS.due("REST", FloatUnit.REST, 4);
    }

    private static void manyCalls() {
        FloatUnit unit = new FloatUnit();
        unit.of(false, 1, 1);
        for (int call = 2; call < 512; call++) {
            CHECKS.due("call " + call, unit.work(FloatUnit.ADD, false, 0, 0, 1),
                    Double.doubleToLongBits(call - 1));
        }
        CHECKS.due("the 512th", unit.whole(false, 0, false), 510);
    }
}
