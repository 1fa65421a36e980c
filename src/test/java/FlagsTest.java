/** The terms of the document that say what the flags are, and promise 5, that takes them away. */
final class FlagsTest {
    private static final int INEXACT = Calls.INEXACT, TINY = Calls.TINY, HUGE = Calls.HUGE;
    private static final int BY_ZERO = Calls.BY_ZERO, INVALID = Calls.INVALID;

    private static final Checks CHECKS = new Checks("FlagsTest");
    private static final Calls CALLS = new Calls(CHECKS);

    public static void main(String[] args) {
        CHECKS.sentence("1 INEXACT, 2 TINY, 4 HUGE, 8 ZERO (divided by it), 16 INVALID",
                FlagsTest::values);
        CHECKS.sentence("they stay until they are taken away", FlagsTest::stay);
        CHECKS.sentence("they stay: others join them", FlagsTest::join);
        CHECKS.sentence("An operand NONE makes the result NONE, without a FLAG: work",
                FlagsTest::noneInWork);
        CHECKS.sentence("An operand NONE makes the result NONE, without a FLAG: turn, negate",
                FlagsTest::noneInTurn);
        CHECKS.sentence("Promise 5: The FLAGS as they are", FlagsTest::asTheyAre);
        CHECKS.sentence("Promise 5: those in mask are taken away then", FlagsTest::takenAway);
        CHECKS.sentence("Promise 5: other bits of it count for nothing", FlagsTest::otherBits);
        CHECKS.finish();
    }

    private static void values() {
        for (Numbers n : Numbers.values()) {
            CALLS.work(n, FloatUnit.DIVIDE, 1, n.one, n.one + 1, n.one - 2, 1);
            CALLS.always(n, FloatUnit.DIVIDE, n.one, 0, n.endless, 8);
            CALLS.always(n, FloatUnit.DIVIDE, 0, 0, n.none, 16);
            CALLS.work(n, FloatUnit.MULTIPLY, 0, n.least, n.least, 0, 1 + 2);
            CALLS.work(n, FloatUnit.MULTIPLY, 0, n.greatest, n.greatest, n.endless, 1 + 4);
        }
    }

    /** An object with these flags, 1.0 and ENDLESS in registers 1 and 2, least and greatest in 3, 4. */
    private static FloatUnit raised(int flags) {
        FloatUnit unit = new FloatUnit();
        unit.put(1, Numbers.WIDE.one);
        unit.put(2, Numbers.WIDE.endless);
        unit.put(3, Numbers.WIDE.least);
        unit.put(4, Numbers.WIDE.greatest);
        unit.work(FloatUnit.MULTIPLY, false, 5, 3, 3);
        unit.work(FloatUnit.MULTIPLY, false, 5, 4, 4);
        unit.work(FloatUnit.DIVIDE, false, 5, 1, 0);
        unit.work(FloatUnit.DIVIDE, false, 5, 0, 0);
        unit.flags(~flags);
        return unit;
    }

    private static void stay() {
        for (int flags = 0; flags < 32; flags++) {
            FloatUnit unit = raised(flags);
            String text = "flags " + flags + " after ";
            for (int op = FloatUnit.ADD; op <= FloatUnit.REST; op++) {
                unit.work(op, false, 6, 1, 1);
                CHECKS.due(text + "an exact op " + op, unit.flags(0), flags);
                unit.work(op, false, 6, 1, 5);
                CHECKS.due(text + "op " + op + " with NONE", unit.flags(0), flags);
            }
            unit.put(6, -1);
            unit.bits(6);
            CHECKS.due(text + "put, bits", unit.flags(0), flags);
            unit.mode(3);
            unit.mode(0);
            CHECKS.due(text + "mode", unit.flags(0), flags);
            unit.compare(false, 1, 6, 0);
            unit.kind(false, 6);
            unit.negate(false, 6, 6);
            CHECKS.due(text + "compare, kind, negate", unit.flags(0), flags);
            unit.of(false, 6, 3);
            unit.whole(false, 6, true);
            unit.turn(false, 6, 1);
            CHECKS.due(text + "of, whole, turn", unit.flags(0), flags);
            CHECKS.refused("work 5", () -> unit.work(5, false, 0, 0, 0));
            CHECKS.refused("work to 16", () -> unit.work(0, false, 16, 0, 0));
            CHECKS.refused("mode 4", () -> unit.mode(4));
            CHECKS.due(text + "what was refused", unit.flags(0), flags);
        }
    }

    private static void join() {
        for (int flags = 0; flags < 32; flags++) {
            FloatUnit unit = raised(flags);
            unit.of(false, 6, Long.MAX_VALUE);
            CHECKS.due("INEXACT joins " + flags, unit.flags(0), flags | INEXACT);
            unit = raised(flags);
            unit.work(FloatUnit.MULTIPLY, false, 6, 3, 3);
            CHECKS.due("TINY joins " + flags, unit.flags(0), flags | INEXACT | TINY);
            unit = raised(flags);
            unit.work(FloatUnit.ADD, false, 6, 4, 4);
            CHECKS.due("HUGE joins " + flags, unit.flags(0), flags | INEXACT | HUGE);
            unit = raised(flags);
            unit.work(FloatUnit.DIVIDE, false, 6, 1, 0);
            CHECKS.due("ZERO joins " + flags, unit.flags(0), flags | BY_ZERO);
            unit = raised(flags);
            unit.work(FloatUnit.SUBTRACT, false, 6, 2, 2);
            CHECKS.due("INVALID joins " + flags, unit.flags(0), flags | INVALID);
            unit = raised(flags);
            unit.whole(false, 2, false);
            CHECKS.due("INVALID of whole joins " + flags, unit.flags(0), flags | INVALID);
        }
    }

    private static void noneInWork() {
        for (Numbers n : Numbers.values()) {
            for (int op = FloatUnit.ADD; op <= FloatUnit.REST; op++) {
                for (long none : n.nones()) {
                    for (long other : n.all()) {
                        CALLS.always(n, op, none, other, n.none, 0);
                        CALLS.always(n, op, other, none, n.none, 0);
                    }
                    for (long other : n.nones()) {
                        CALLS.always(n, op, none, other, n.none, 0);
                    }
                }
            }
        }
    }

    private static void noneInTurn() {
        for (int mode = 0; mode < 4; mode++) {
            for (long none : Numbers.WIDE.nones()) {
                CALLS.turn(Numbers.WIDE, mode, none, Numbers.NARROW.none, 0);
                CALLS.negate(Numbers.WIDE, mode, none, Numbers.WIDE.none);
            }
            for (long none : Numbers.NARROW.nones()) {
                CALLS.turn(Numbers.NARROW, mode, none, Numbers.WIDE.none, 0);
                CALLS.negate(Numbers.NARROW, mode, none, Numbers.NARROW.none);
            }
        }
    }

    private static void asTheyAre() {
        for (int flags = 0; flags < 32; flags++) {
            FloatUnit unit = raised(flags);
            CHECKS.due("flags 0 of " + flags, unit.flags(0), flags);
            CHECKS.due("flags 0 again of " + flags, unit.flags(0), flags);
            CHECKS.due("flags -1 tells what they were", unit.flags(-1), flags);
        }
    }

    private static void takenAway() {
        for (int flags = 0; flags < 32; flags++) {
            for (int mask = 0; mask < 32; mask++) {
                FloatUnit unit = raised(flags);
                CHECKS.due("flags " + mask + " of " + flags, unit.flags(mask), flags);
                CHECKS.due("flags left of " + flags + " by " + mask, unit.flags(0), flags & ~mask);
            }
        }
    }

    private static void otherBits() {
        int[] masks = {32, 1 << 30, Integer.MIN_VALUE, ~31, Integer.MAX_VALUE & ~31};
        for (int flags = 0; flags < 32; flags++) {
            for (int mask : masks) {
                FloatUnit unit = raised(flags);
                CHECKS.due("flags " + mask + " of " + flags, unit.flags(mask), flags);
                CHECKS.due("after it", unit.flags(mask | INVALID), flags);
                CHECKS.due("and after INVALID with it", unit.flags(-1), flags & ~INVALID);
                CHECKS.due("and after all", unit.flags(0), 0);
            }
        }
    }
}
