/** Counts the answers of one test and prints those that are not as due, with their sentence. */
final class Checks {
    /** Of one sentence: enough to see a pattern; a broken rounding would else print millions. */
    private static final int MOST_PRINTED = 10;

    private final String test;
    private String sentence = "";
    private long sentences = 0;
    private long asked = 0;
    private long wrong = 0;
    private int printed = 0;

    Checks(String test) {
        this.test = test;
    }

    interface Call {
        long run();
    }

    /** Runs the test of one sentence of the document; one that asks nothing is itself wrong. */
    void sentence(String words, Runnable answers) {
        sentence = "\"" + words + "\": ";
        sentences++;
        printed = 0;
        long before = asked;
        try {
            answers.run();
        } catch (RuntimeException e) {
            report("threw " + e);
        }
        holds("nothing was asked", asked > before);
        sentence = "";
    }

    void due(String call, long got, long want) {
        asked++;
        if (got != want) {
            report(call + " answered " + hex(got) + ", due is " + hex(want));
        }
    }

    void refused(String call, Call run) {
        asked++;
        try {
            report(call + " answered " + hex(run.run()) + ", due is an IllegalArgumentException");
        } catch (RuntimeException e) {
            if (e.getClass() != IllegalArgumentException.class) {
                report(call + " threw " + e + ", due is an IllegalArgumentException itself");
            }
        }
    }

    void holds(String what, boolean held) {
        asked++;
        if (!held) {
            report(what);
        }
    }

    void finish() {
        System.out.println(test + ": " + (sentences == 0 ? "" : sentences + " sentences, ")
                + asked + " answers, " + wrong + " not as due");
        if (asked == 0 || wrong != 0) {
            System.exit(1);
        }
    }

    private void report(String text) {
        wrong++;
        printed++;
        if (printed <= MOST_PRINTED) {
            System.out.println(test + ": " + sentence + text);
        }
    }

    private static String hex(long value) {
        return value + " (0x" + Long.toHexString(value) + ")";
    }
}
