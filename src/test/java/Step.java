import java.util.function.ToLongFunction;

/** One call of a run: how it is written, and how it is asked of the class and of the model. */
record Step(String text, ToLongFunction<FloatUnit> ofUnit, ToLongFunction<Model> ofModel) {

    static Step put(int r, long bits) {
        return new Step("put(" + r + ", " + hex(bits) + ")", u -> u.put(r, bits), m -> m.put(r, bits));
    }

    static Step bits(int r) {
        return new Step("bits(" + r + ")", u -> u.bits(r), m -> m.bits(r));
    }

    static Step mode(int mode) {
        return new Step("mode(" + mode + ")", u -> u.mode(mode), m -> m.mode(mode));
    }

    static Step flags(int mask) {
        return new Step("flags(" + mask + ")", u -> u.flags(mask), m -> m.flags(mask));
    }

    static Step work(int op, boolean narrow, int to, int x, int y) {
        return new Step("work(" + op + ", " + narrow + ", " + to + ", " + x + ", " + y + ")",
                u -> u.work(op, narrow, to, x, y), m -> m.work(op, narrow, to, x, y));
    }

    static Step compare(boolean narrow, int x, int y, int ifNone) {
        return new Step("compare(" + narrow + ", " + x + ", " + y + ", " + ifNone + ")",
                u -> u.compare(narrow, x, y, ifNone), m -> m.compare(narrow, x, y, ifNone));
    }

    static Step of(boolean narrow, int to, long v) {
        return new Step("of(" + narrow + ", " + to + ", " + hex(v) + ")",
                u -> u.of(narrow, to, v), m -> m.of(narrow, to, v));
    }

    static Step whole(boolean narrow, int x, boolean half) {
        return new Step("whole(" + narrow + ", " + x + ", " + half + ")",
                u -> u.whole(narrow, x, half), m -> m.whole(narrow, x, half));
    }

    static Step turn(boolean narrow, int to, int x) {
        return new Step("turn(" + narrow + ", " + to + ", " + x + ")",
                u -> u.turn(narrow, to, x), m -> m.turn(narrow, to, x));
    }

    static Step kind(boolean narrow, int x) {
        return new Step("kind(" + narrow + ", " + x + ")", u -> u.kind(narrow, x), m -> m.kind(narrow, x));
    }

    static Step negate(boolean narrow, int to, int x) {
        return new Step("negate(" + narrow + ", " + to + ", " + x + ")",
                u -> u.negate(narrow, to, x), m -> m.negate(narrow, to, x));
    }

    private static String hex(long bits) {
        return "0x" + Long.toHexString(bits) + "L";
    }
}
