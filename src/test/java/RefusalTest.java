import java.util.ArrayList;
import java.util.List;

/** Every place where a register or an operation stands, with one that there is not. */
final class RefusalTest {
    private static final int[] NO_REGISTERS = {-1, 16, 17, 31, 1 << 16, Integer.MIN_VALUE,
        Integer.MAX_VALUE};
    private static final int[] NO_OPERATIONS = {-1, 5, 6, 8, Integer.MIN_VALUE, Integer.MAX_VALUE};

    private static final Checks CHECKS = new Checks("RefusalTest");

    /** A call with one wrong argument, on an object and in both formats. */
    private interface Wrong {
        long run(FloatUnit unit, boolean narrow, int wrong);
    }

    public static void main(String[] args) {
        sentence("Promise 2: put: there is no r", (u, n, r) -> u.put(r, 5));
        sentence("Promise 3: bits: there is no r", (u, n, r) -> u.bits(r));
        CHECKS.sentence("Promise 6: IllegalArgumentException: to", () -> work((u, op, n, r) ->
                u.work(op, n, r, 1, 2)));
        CHECKS.sentence("Promise 6: IllegalArgumentException: x", () -> work((u, op, n, r) ->
                u.work(op, n, 0, r, 2)));
        CHECKS.sentence("Promise 6: IllegalArgumentException: y", () -> work((u, op, n, r) ->
                u.work(op, n, 0, 1, r)));
        CHECKS.sentence("Promise 6: IllegalArgumentException: op (0..4)", RefusalTest::operations);
        sentence("Promise 7: compare: there is no x", (u, n, r) -> u.compare(n, r, 1, 7));
        sentence("Promise 7: compare: there is no y", (u, n, r) -> u.compare(n, 1, r, 7));
        sentence("Promise 8: of: there is no to", (u, n, r) -> u.of(n, r, Long.MAX_VALUE));
        sentence("Promise 8: of 0: there is no to", (u, n, r) -> u.of(n, r, 0));
        sentence("Promise 9: whole: there is no x", (u, n, r) -> u.whole(n, r, false));
        sentence("Promise 9: whole, half: there is no x", (u, n, r) -> u.whole(n, r, true));
        sentence("Promise 10: turn: there is no to", (u, n, r) -> u.turn(n, r, 1));
        sentence("Promise 10: turn: there is no x", (u, n, r) -> u.turn(n, 0, r));
        sentence("Promise 11: kind: there is no x", (u, n, r) -> u.kind(n, r));
        sentence("Promise 12: negate: there is no to", (u, n, r) -> u.negate(n, r, 1));
        sentence("Promise 12: negate: there is no x", (u, n, r) -> u.negate(n, 0, r));
        CHECKS.sentence("in all calls: looked at first", RefusalTest::lookedAtFirst);
        CHECKS.finish();
    }

    private static void sentence(String words, Wrong call) {
        CHECKS.sentence(words, () -> {
            for (boolean narrow : new boolean[] {false, true}) {
                for (int r : NO_REGISTERS) {
                    refused(words + " " + r, unit -> call.run(unit, narrow, r));
                }
            }
        });
    }

    private interface WrongWork {
        long run(FloatUnit unit, int op, boolean narrow, int wrong);
    }

    private static void work(WrongWork call) {
        for (int op = FloatUnit.ADD; op <= FloatUnit.REST; op++) {
            for (boolean narrow : new boolean[] {false, true}) {
                for (int r : NO_REGISTERS) {
                    int asked = op;
                    refused("op " + op + " with " + r, unit -> call.run(unit, asked, narrow, r));
                }
            }
        }
    }

    private static void operations() {
        for (boolean narrow : new boolean[] {false, true}) {
            for (int op : NO_OPERATIONS) {
                refused("op " + op, unit -> unit.work(op, narrow, 0, 1, 2));
                refused("op " + op + " in one place", unit -> unit.work(op, narrow, 1, 1, 1));
                refused("op " + op + " with NONE", unit -> unit.work(op, narrow, 0, 3, 3));
            }
        }
    }

    /** What would have ended the call in another way if it had been looked at before. */
    private static void lookedAtFirst() {
        refused("compare with NONE", unit -> unit.compare(false, 3, 16, 7));
        refused("compare with NONE", unit -> unit.compare(false, -1, 3, 7));
        refused("work with NONE", unit -> unit.work(FloatUnit.ADD, false, 0, 3, 16));
        refused("work with NONE", unit -> unit.work(FloatUnit.ADD, false, 16, 3, 3));
        refused("work that is INVALID", unit -> unit.work(FloatUnit.SUBTRACT, false, 16, 1, 1));
        refused("work by ZERO", unit -> unit.work(FloatUnit.DIVIDE, false, -1, 4, 0));
        refused("work that is HUGE", unit -> unit.work(FloatUnit.MULTIPLY, false, 16, 2, 2));
        refused("turn that is HUGE", unit -> unit.turn(false, 16, 2));
        refused("turn of NONE", unit -> unit.turn(false, 16, 3));
        refused("negate of NONE", unit -> unit.negate(false, 16, 3));
        for (int op : NO_OPERATIONS) {
            refused("op and to", unit -> unit.work(op, false, 16, 1, 2));
            refused("op and x", unit -> unit.work(op, false, 0, -1, 2));
            refused("op and y", unit -> unit.work(op, true, 0, 1, 16));
        }
        refused("to and x", unit -> unit.turn(true, 16, 16));
        refused("to, x and y", unit -> unit.work(FloatUnit.ADD, false, -1, -1, -1));
    }

    private interface Call {
        long run(FloatUnit unit);
    }

    /** In every mode; and nothing of the object is another than before. */
    private static void refused(String text, Call call) {
        for (int mode = 0; mode < 4; mode++) {
            FloatUnit unit = filled(mode);
            List<Long> before = state(unit);
            CHECKS.refused(text, () -> call.run(unit));
            CHECKS.holds(text + " changed the object", before.equals(state(unit)));
            CHECKS.due(text + ": mode", unit.mode(0), mode);
        }
    }

    private static FloatUnit filled(int mode) {
        FloatUnit unit = new FloatUnit();
        unit.mode(mode);
        for (int r = 5; r < 16; r++) {
            unit.put(r, 1L << r);
        }
        unit.put(1, Numbers.WIDE.endless);
        unit.put(2, Numbers.WIDE.greatest | Numbers.NARROW.greatest);
        unit.put(3, -1);
        unit.put(4, Numbers.WIDE.one);
        unit.work(FloatUnit.DIVIDE, false, 15, 4, 0);
        return unit;
    }

    private static List<Long> state(FloatUnit unit) {
        List<Long> state = new ArrayList<>();
        for (int r = 0; r < 16; r++) {
            state.add(unit.bits(r));
        }
        state.add((long) unit.flags(0));
        return state;
    }
}
