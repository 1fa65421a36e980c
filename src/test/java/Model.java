/**
 * What one object answers by the document, call after call: Reference with a memory. It has the
 * face of FloatUnit, so that a run can be asked of both.
 */
final class Model {
    private static final int REGISTERS = 16, MODES = 4, OPERATIONS = 5;

    private final long[] registers = new long[REGISTERS];
    private int mode = 0;
    private int flags = 0;

    long put(int r, long bits) {
        require(REGISTERS, r);
        long before = registers[r];
        registers[r] = bits;
        return before;
    }

    long bits(int r) {
        require(REGISTERS, r);
        return registers[r];
    }

    int mode(int m) {
        require(MODES, m);
        int before = mode;
        mode = m;
        return before;
    }

    int flags(int mask) {
        int before = flags;
        flags = before & ~mask;
        return before;
    }

    long work(int op, boolean narrow, int to, int x, int y) {
        require(REGISTERS, to, x, y);
        require(OPERATIONS, op);
        Reference reference = new Reference(narrow, mode);
        return keep(to, reference.work(op, registers[x], registers[y]), reference);
    }

    int compare(boolean narrow, int x, int y, int ifNone) {
        require(REGISTERS, x, y);
        return new Reference(narrow, mode).compare(registers[x], registers[y], ifNone);
    }

    long of(boolean narrow, int to, long v) {
        require(REGISTERS, to);
        Reference reference = new Reference(narrow, mode);
        return keep(to, reference.of(v), reference);
    }

    long whole(boolean narrow, int x, boolean half) {
        require(REGISTERS, x);
        Reference reference = new Reference(narrow, mode);
        long answer = reference.whole(registers[x], half);
        flags |= reference.flags;
        return answer;
    }

    long turn(boolean narrow, int to, int x) {
        require(REGISTERS, to, x);
        Reference into = new Reference(!narrow, mode);
        return keep(to, into.turnFrom(new Reference(narrow, mode), registers[x]), into);
    }

    int kind(boolean narrow, int x) {
        require(REGISTERS, x);
        return new Reference(narrow, mode).kind(registers[x]);
    }

    long negate(boolean narrow, int to, int x) {
        require(REGISTERS, to, x);
        Reference reference = new Reference(narrow, mode);
        return keep(to, reference.negate(registers[x]), reference);
    }

    private long keep(int to, long bits, Reference reference) {
        registers[to] = bits;
        flags |= reference.flags;
        return bits;
    }

    private static void require(int end, int... all) {
        for (int each : all) {
            if (each < 0 || each >= end) {
                throw new IllegalArgumentException();
            }
        }
    }
}
