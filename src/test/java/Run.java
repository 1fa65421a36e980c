/** Calls on one object, each asked of the model, too; there are never more than the document allows. */
final class Run {
    static final int MOST = 512;

    /** How many calls look takes. */
    static final int LOOK = 18;

    private final Checks checks;
    private final String name;
    private final FloatUnit unit = new FloatUnit();
    private final Model model = new Model();
    private int calls = 0;

    Run(Checks checks, String name) {
        this.checks = checks;
        this.name = name;
    }

    int left() {
        return MOST - calls;
    }

    /** What is due is what the model does: it answers or it refuses. */
    void ask(Step step) {
        String text = next(step);
        long want;
        try {
            want = step.ofModel().applyAsLong(model);
        } catch (IllegalArgumentException e) {
            checks.refused(text, () -> step.ofUnit().applyAsLong(unit));
            return;
        }
        answered(text, step, want);
    }

    /** An answer that is written in the test; the model is not asked what is due, but held to it. */
    void due(Step step, long want) {
        String text = next(step);
        answered(text, step, want);
        checks.due(text + " of the model", step.ofModel().applyAsLong(model), want);
    }

    void refused(Step step) {
        String text = next(step);
        checks.refused(text, () -> step.ofUnit().applyAsLong(unit));
        checks.refused(text + " of the model", () -> step.ofModel().applyAsLong(model));
    }

    /** All that an object has: the registers, the flags and the mode, none of them changed. */
    void look() {
        for (int r = 0; r < 16; r++) {
            ask(Step.bits(r));
        }
        ask(Step.flags(0));
        int mode = model.mode(0);
        model.mode(mode);
        ask(Step.mode(mode));
    }

    private String next(Step step) {
        if (calls == MOST) {
            throw new IllegalStateException("the test itself asks more than " + MOST + " calls");
        }
        calls++;
        return name + ", call " + calls + ": " + step.text();
    }

    private void answered(String text, Step step, long want) {
        try {
            checks.due(text, step.ofUnit().applyAsLong(unit), want);
        } catch (RuntimeException e) {
            checks.holds(text + " threw " + e, false);
        }
    }
}
