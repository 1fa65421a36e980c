import java.util.function.IntFunction;
import java.util.function.IntToLongFunction;

/**
 * Runs of many calls on one object, up to the 512 that the document allows: what earlier calls
 * left is what later calls answer from, and a refused call in between changes none of it.
 */
final class RunsTest {
    private static final int DRAWN_RUNS = 1500;

    private static final Checks CHECKS = new Checks("RunsTest");
    private static final Numbers WIDE = Numbers.WIDE, NARROW = Numbers.NARROW;

    public static void main(String[] args) {
        CHECKS.sentence("An object is used for at most 512 calls", RunsTest::drawn);
        CHECKS.sentence("512 calls, all of them one", RunsTest::oneCall);
        CHECKS.sentence("512 calls, of two objects in turns", RunsTest::inTurns);
        CHECKS.sentence("REGISTERS: what one call left is the next one's x", RunsTest::handedOn);
        CHECKS.sentence("REGISTERS: a sum of results", RunsTest::harmonic);
        CHECKS.sentence("REGISTERS: x, y and to are one", RunsTest::inOnePlace);
        CHECKS.sentence("REGISTERS: WIDE and NARROW in one", RunsTest::bothFormats);
        CHECKS.sentence("REGISTERS: halved to the least, to ZERO", RunsTest::halved);
        CHECKS.sentence("MODE stays until the next one", RunsTest::modeStays);
        CHECKS.sentence("MODE: each call goes by the last one", RunsTest::modeChanges);
        CHECKS.sentence("FLAGS stay until they are taken away", RunsTest::flagsStay);
        CHECKS.sentence("FLAGS come again after they were taken away", RunsTest::flagsComeAgain);
        CHECKS.sentence("a refused call changes no REGISTER, MODE, FLAG", RunsTest::refusedThenLook);
        CHECKS.sentence("a run answers the same with refused calls in between", RunsTest::twins);
        CHECKS.sentence("a refused MODE leaves the one before", RunsTest::refusedModes);
        CHECKS.finish();
    }

    private static Run run(String name) {
        return new Run(CHECKS, name);
    }

    private static void drawn() {
        for (int seed = 0; seed < DRAWN_RUNS; seed++) {
            Drawn drawn = new Drawn(seed);
            Run run = run("seed " + seed);
            while (run.left() > Run.LOOK) {
                run.ask(drawn.oneOf(8) ? drawn.refused() : drawn.step());
            }
            run.look();
        }
    }

    private static void oneCall() {
        allOf("put", i -> Step.put(9, i), i -> i - 1);
        allOf("mode", i -> Step.mode(i % 4), i -> (i - 1) % 4);
        allOf("work", i -> Step.work(FloatUnit.DIVIDE, false, 15, 0, 0), i -> WIDE.none);
        allOf("of", i -> Step.of(true, i % 16, i), i -> Float.floatToIntBits(i));
        allOf("negate", i -> Step.negate(true, 9, 9), i -> i % 2 == 1 ? NARROW.minus : 0);
        onlyAfterPut("bits", Step.bits(5), NARROW.endless);
        onlyAfterPut("whole", Step.whole(true, 5, true), Integer.MAX_VALUE);
        onlyAfterPut("turn", Step.turn(true, 6, 5), WIDE.endless);
        onlyAfterPut("kind", Step.kind(true, 5), 1);
        onlyAfterPut("compare", Step.compare(true, 4, 5, 7), -1);
        Run run = run("flags alone");
        run.due(Step.work(FloatUnit.DIVIDE, false, 15, 0, 0), WIDE.none);
        while (run.left() > 1) {
            run.due(Step.flags(~Calls.INVALID), Calls.INVALID);
        }
        run.due(Step.flags(Calls.INVALID), Calls.INVALID);
    }

    /** The call that is the i-th, from 1, and its answer. */
    private static void allOf(String name, IntFunction<Step> step, IntToLongFunction want) {
        Run run = run(name + " alone");
        for (int i = 1; i <= Run.MOST; i++) {
            run.due(step.apply(i), want.applyAsLong(i));
        }
    }

    private static void onlyAfterPut(String name, Step step, long want) {
        Run run = run(name + " alone");
        run.due(Step.put(5, NARROW.endless), 0);
        while (run.left() > 0) {
            run.due(step, want);
        }
    }

    private static void inTurns() {
        for (int seed = 0; seed < 10; seed++) {
            Drawn drawn = new Drawn(1000 + seed);
            Run first = run("first of " + seed);
            Run second = run("second of " + seed);
            while (first.left() > Run.LOOK) {
                first.ask(drawn.step());
                second.ask(drawn.step());
            }
            first.look();
            second.look();
        }
    }

    /** 1 goes round through all registers, one more in each; what it was stays behind. */
    private static void handedOn() {
        Run run = run("handed on");
        run.due(Step.of(false, 0, 1), WIDE.one);
        run.due(Step.put(15, WIDE.one), 0);
        for (int i = 0; i < 494; i++) {
            int from = i % 15;
            int to = (i + 1) % 15;
            run.due(Step.work(FloatUnit.ADD, false, to, from, 15), Double.doubleToLongBits(i + 2));
        }
        for (int back = 0; back < 15; back++) {
            run.due(Step.bits((494 - back) % 15), Double.doubleToLongBits(495 - back));
        }
        run.due(Step.flags(0), 0);
    }

    /** 1 / 1 + 1 / 2 + ..., beside Java's own double, which goes by mode 0. */
    private static void harmonic() {
        Run run = run("harmonic");
        double sum = 0;
        run.due(Step.put(1, WIDE.one), 0);
        for (int i = 1; run.left() >= 5; i++) {
            double next = 1.0 / i;
            sum += next;
            run.due(Step.of(false, 2, i), Double.doubleToLongBits(i));
            run.due(Step.work(FloatUnit.DIVIDE, false, 3, 1, 2), Double.doubleToLongBits(next));
            run.due(Step.work(FloatUnit.ADD, false, 4, 4, 3), Double.doubleToLongBits(sum));
        }
        run.due(Step.whole(false, 4, true), 5);
        run.due(Step.flags(-1), Calls.INEXACT);
    }

    private static void inOnePlace() {
        for (int r = 0; r < 16; r++) {
            Run run = run("register " + r);
            for (Numbers n : Numbers.values()) {
                run.ask(Step.put(r, Calls.operand(n, n.three)));
                for (int power = 1; power < 100; power++) {
                    run.due(Step.work(FloatUnit.ADD, n.narrow, r, r, r),
                            n.power(power + 1) | n.three & n.greatestSmall);
                }
                run.due(Step.work(FloatUnit.DIVIDE, n.narrow, r, r, r), n.one);
                run.due(Step.negate(n.narrow, r, r), n.minus | n.one);
                run.due(Step.work(FloatUnit.MULTIPLY, n.narrow, r, r, r), n.one);
                run.due(Step.turn(n.narrow, r, r), n.narrow ? WIDE.one : NARROW.one);
                run.due(Step.turn(!n.narrow, r, r), n.one);
                run.due(Step.work(FloatUnit.SUBTRACT, n.narrow, r, r, r), 0);
                run.due(Step.work(FloatUnit.REST, n.narrow, r, r, r), n.none);
                run.due(Step.flags(-1), Calls.INVALID);
            }
            run.look();
        }
    }

    /** What WIDE left is read as NARROW by its lower half alone, and NARROW leaves no upper half. */
    private static void bothFormats() {
        Run run = run("both formats");
        long both = WIDE.three | NARROW.three;
        while (run.left() >= 9) {
            run.ask(Step.put(1, both));
            run.due(Step.kind(false, 1), 2);
            run.due(Step.work(FloatUnit.SUBTRACT, true, 2, 1, 1), 0);
            run.due(Step.work(FloatUnit.ADD, true, 2, 1, 2), NARROW.three);
            run.due(Step.kind(false, 2), 3);
            run.due(Step.negate(true, 1, 1), NARROW.minus | NARROW.three);
            run.due(Step.bits(1), NARROW.minus | NARROW.three);
            run.due(Step.compare(true, 1, 2, 7), -1);
            run.due(Step.compare(false, 1, 2, 7), 1);
        }
        run.due(Step.flags(0), 0);
    }

    private static void halved() {
        for (int mode = 0; mode < 4; mode++) {
            Run run = run("halved in mode " + mode);
            run.ask(Step.mode(mode));
            run.ask(Step.put(1, NARROW.one));
            run.ask(Step.put(2, NARROW.two));
            for (int power = -1; power >= -149; power--) {
                run.due(Step.work(FloatUnit.DIVIDE, true, 1, 1, 2),
                        power < -126 ? 1L << (power + 149) : NARROW.power(power));
                run.due(Step.kind(true, 1), power < -126 ? 3 : 2);
            }
            run.due(Step.flags(0), 0);
            // upward it never comes to ZERO
            run.due(Step.work(FloatUnit.DIVIDE, true, 1, 1, 2), mode == 2 ? NARROW.least : 0);
            run.due(Step.kind(true, 1), mode == 2 ? 3 : 4);
            run.due(Step.work(FloatUnit.DIVIDE, true, 1, 1, 2), mode == 2 ? NARROW.least : 0);
            run.due(Step.flags(0), Calls.INEXACT | Calls.TINY);
            for (int step = 1; run.left() > 1; step++) {
                run.due(Step.work(FloatUnit.ADD, true, 2, 2, 1), NARROW.two + (mode == 2 ? step : 0));
            }
            run.due(Step.flags(0), Calls.INEXACT | Calls.TINY);
        }
    }

    private static void modeStays() {
        for (int mode = 0; mode < 4; mode++) {
            Run run = run("mode " + mode);
            run.due(Step.mode(mode), 0);
            long half = (1L << 53) + 3;
            long low = WIDE.power(53) + 1;
            while (run.left() >= 4) {
                run.due(Step.of(false, 1, half), mode == 0 || mode == 2 ? low + 1 : low);
                run.due(Step.of(false, 2, -half), WIDE.minus | (mode == 0 || mode == 3 ? low + 1 : low));
                run.due(Step.work(FloatUnit.SUBTRACT, false, 3, 1, 1), mode == 3 ? WIDE.minus : 0);
            }
            while (run.left() > 1) {
                run.due(Step.bits(3), mode == 3 ? WIDE.minus : 0);
            }
            run.due(Step.mode(0), mode);
        }
    }

    /** In turns through all pairs of a mode and the next one. */
    private static void modeChanges() {
        Run run = run("mode after mode");
        run.ask(Step.put(1, WIDE.one));
        run.ask(Step.put(3, WIDE.three));
        int before = 0;
        for (int pair = 0; run.left() >= 5; pair++) {
            int first = pair / 4 % 4;
            int second = pair % 4;
            run.due(Step.mode(first), before);
            run.due(Step.work(FloatUnit.DIVIDE, false, 2, 1, 3), third(first));
            run.due(Step.mode(second), first);
            run.due(Step.work(FloatUnit.DIVIDE, false, 2, 1, 3), third(second));
            before = second;
        }
        run.due(Step.flags(0), Calls.INEXACT);
    }

    private static long third(int mode) {
        long low = WIDE.power(-2) | 0x5555555555555L;
        return mode == 2 ? low + 1 : low;
    }

    /** Each flag comes once, with hundreds of calls behind it that raise none. */
    private static void flagsStay() {
        Run run = run("flags stay");
        run.ask(Step.put(1, WIDE.one));
        run.ask(Step.put(2, WIDE.least));
        run.ask(Step.put(3, WIDE.greatest));
        run.due(Step.work(FloatUnit.DIVIDE, false, 5, 1, 0), WIDE.endless);
        quiet(run, 98, Calls.BY_ZERO);
        run.due(Step.work(FloatUnit.REST, false, 5, 1, 0), WIDE.none);
        quiet(run, 98, Calls.BY_ZERO | Calls.INVALID);
        run.due(Step.work(FloatUnit.ADD, false, 5, 1, 2), WIDE.one);
        quiet(run, 98, Calls.BY_ZERO | Calls.INVALID | Calls.INEXACT);
        run.due(Step.work(FloatUnit.MULTIPLY, false, 5, 2, 2), 0);
        quiet(run, 98, Calls.BY_ZERO | Calls.INVALID | Calls.INEXACT | Calls.TINY);
        run.due(Step.work(FloatUnit.ADD, false, 5, 3, 3), WIDE.endless);
        quiet(run, 98, 31);
        run.due(Step.flags(Calls.TINY | Calls.BY_ZERO), 31);
        run.due(Step.flags(-1), 31 & ~(Calls.TINY | Calls.BY_ZERO));
        run.due(Step.flags(-1), 0);
    }

    private static void quiet(Run run, int calls, int flags) {
        for (int i = 1; i < calls; i++) {
            switch (i % 7) {
                case 0:
                    run.due(Step.work(FloatUnit.ADD, false, 6, 1, 1), WIDE.two);
                    break;
                case 1:
                    run.due(Step.kind(false, 3), 2);
                    break;
                case 2:
                    run.due(Step.compare(false, 2, 3, 9), -1);
                    break;
                case 3:
                    run.due(Step.negate(false, 6, 1), WIDE.minus | WIDE.one);
                    break;
                case 4:
                    run.due(Step.turn(false, 6, 1), NARROW.one);
                    break;
                case 5:
                    run.due(Step.whole(false, 1, true), 1);
                    break;
                default:
                    run.refused(Step.work(FloatUnit.DIVIDE, false, 16, 0, 0));
            }
        }
        run.due(Step.flags(0), flags);
    }

    private static void flagsComeAgain() {
        Run run = run("flags come again");
        run.ask(Step.put(1, NARROW.one));
        run.ask(Step.put(2, NARROW.least));
        run.ask(Step.put(3, NARROW.greatest));
        int[] masks = {-1, 31, 1, 2, 4, 8, 16, 0};
        int flags = 0;
        for (int i = 0; run.left() >= 5; i++) {
            int mask = masks[i % masks.length];
            run.ask(Step.work(FloatUnit.DIVIDE, true, 5, i % 3, 0));
            run.ask(Step.work(FloatUnit.MULTIPLY, true, 5, i % 5 == 0 ? 2 : 1, 2));
            run.ask(Step.work(FloatUnit.ADD, true, 5, i % 7 == 0 ? 3 : 0, 3));
            flags |= i % 3 == 0 ? Calls.INVALID : Calls.BY_ZERO;
            flags |= i % 5 == 0 ? Calls.INEXACT | Calls.TINY : 0;
            flags |= i % 7 == 0 ? Calls.INEXACT | Calls.HUGE : 0;
            run.due(Step.flags(mask), flags);
            flags &= ~mask;
        }
        run.due(Step.flags(0), flags);
    }

    private static void refusedThenLook() {
        for (int seed = 0; seed < 200; seed++) {
            Drawn drawn = new Drawn(2000 + seed);
            Run run = run("refused, seed " + seed);
            while (run.left() >= 7 + Run.LOOK) {
                for (int i = 0; i < 6; i++) {
                    run.ask(drawn.step());
                }
                run.refused(drawn.refused());
                run.look();
            }
        }
    }

    /** Without the model: the object beside one that is not asked the refused calls. */
    private static void twins() {
        for (int seed = 0; seed < 200; seed++) {
            Drawn drawn = new Drawn(3000 + seed);
            FloatUnit plain = new FloatUnit();
            FloatUnit disturbed = new FloatUnit();
            for (int i = 0; i < Run.MOST / 2; i++) {
                Step wrong = drawn.refused();
                Step step = drawn.step();
                CHECKS.refused(wrong.text(), () -> wrong.ofUnit().applyAsLong(disturbed));
                CHECKS.due("seed " + seed + ": " + step.text() + " behind " + wrong.text(),
                        step.ofUnit().applyAsLong(disturbed), step.ofUnit().applyAsLong(plain));
            }
        }
    }

    private static void refusedModes() {
        Run run = run("refused modes");
        for (int mode = 3; run.left() >= 4; mode = (mode + 3) % 4) {
            run.ask(Step.mode(mode));
            run.refused(Step.mode(mode + 4));
            run.refused(Step.mode(mode - 4));
            run.due(Step.mode(mode), mode);
        }
    }
}
