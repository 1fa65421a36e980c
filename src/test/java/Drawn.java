import java.util.Random;

/** Draws the calls of a run: the same ones each time, as the seed is given. */
final class Drawn {
    private static final int[] NO_REGISTERS = {-1, 16, 17, 1 << 16, Integer.MIN_VALUE,
        Integer.MAX_VALUE};
    private static final int[] NO_OPERATIONS = {-1, 5, 6, Integer.MIN_VALUE, Integer.MAX_VALUE};
    private static final int[] NO_MODES = {-1, 4, 5, Integer.MIN_VALUE, Integer.MAX_VALUE};

    private final Random random;

    Drawn(long seed) {
        random = new Random(seed);
    }

    boolean oneOf(int many) {
        return random.nextInt(many) == 0;
    }

    /** A call that there is; so many are put, as NONE would else soon be in all registers. */
    Step step() {
        boolean narrow = random.nextBoolean();
        switch (random.nextInt(24)) {
            case 0, 1, 2, 3, 4, 5:
                return Step.put(register(), number());
            case 6, 7, 8, 9, 10, 11, 12:
                return Step.work(random.nextInt(5), narrow, register(), register(), register());
            case 13, 14:
                return Step.flags(mask());
            case 15:
                return Step.mode(random.nextInt(4));
            case 16:
                return Step.compare(narrow, register(), register(), random.nextInt());
            case 17, 18:
                return Step.of(narrow, register(), random.nextLong() >> random.nextInt(64));
            case 19:
                return Step.whole(narrow, register(), random.nextBoolean());
            case 20:
                return Step.turn(narrow, register(), register());
            case 21:
                return Step.kind(narrow, register());
            case 22:
                return Step.negate(narrow, register(), register());
            default:
                return Step.bits(register());
        }
    }

    /** A call with a register, an operation or a mode that there is not. */
    Step refused() {
        boolean narrow = random.nextBoolean();
        int wrong = one(NO_REGISTERS);
        int op = random.nextInt(5);
        switch (random.nextInt(16)) {
            case 0:
                return Step.put(wrong, number());
            case 1:
                return Step.bits(wrong);
            case 2, 3:
                return Step.mode(one(NO_MODES));
            case 4:
                return Step.work(op, narrow, wrong, register(), register());
            case 5:
                return Step.work(op, narrow, register(), wrong, register());
            case 6:
                return Step.work(op, narrow, register(), register(), wrong);
            case 7, 8:
                return Step.work(one(NO_OPERATIONS), narrow, register(), register(), register());
            case 9:
                return Step.compare(narrow, wrong, register(), random.nextInt());
            case 10:
                return Step.compare(narrow, register(), wrong, random.nextInt());
            case 11:
                return Step.of(narrow, wrong, random.nextLong());
            case 12:
                return Step.whole(narrow, wrong, random.nextBoolean());
            case 13:
                return random.nextBoolean() ? Step.turn(narrow, wrong, register())
                        : Step.turn(narrow, register(), wrong);
            case 14:
                return Step.kind(narrow, wrong);
            default:
                return random.nextBoolean() ? Step.negate(narrow, wrong, register())
                        : Step.negate(narrow, register(), wrong);
        }
    }

    private int register() {
        return random.nextInt(16);
    }

    private int one(int[] all) {
        return all[random.nextInt(all.length)];
    }

    private long one(long[] all) {
        return all[random.nextInt(all.length)];
    }

    private int mask() {
        switch (random.nextInt(4)) {
            case 0:
                return 0;
            case 1:
                return -1;
            case 2:
                return 1 << random.nextInt(32);
            default:
                return random.nextInt();
        }
    }

    /** Bits that are a number of one format, mostly such that two of them meet. */
    private long number() {
        Numbers n = random.nextBoolean() ? Numbers.NARROW : Numbers.WIDE;
        long above = n.narrow && random.nextBoolean() ? random.nextLong() << 32 : 0;
        return above | numberOf(n);
    }

    private long numberOf(Numbers n) {
        long part = random.nextLong() & n.greatestSmall & -1L << random.nextInt(n.precision);
        switch (random.nextInt(8)) {
            case 0:
                return one(n.all());
            case 1:
                return oneOf(4) ? one(n.nones()) : one(n.zeros());
            case 2:
                return n.signed(random.nextBoolean(), part);
            case 3:
                return n.signed(random.nextBoolean(), n.power(n.bias - random.nextInt(3)) | part);
            default:
                return n.signed(random.nextBoolean(), n.power(random.nextInt(60) - 30) | part);
        }
    }
}
