/** Counts the answers of one test and prints those that are not as due. */
final class Checks {
    /** Enough to see a pattern; a broken rounding would else print millions of lines. */
    private static final int MOST_PRINTED = 40;

    private final String test;
    private long asked = 0;
    private long wrong = 0;

    Checks(String test) {
        this.test = test;
    }

    interface Call {
        long run();
    }

    void due(String call, long got, long want) {
        asked++;
        if (got != want) {
            report(call + " answered " + hex(got) + ", due is " + hex(want));
        }
    }

    void refused(String call, Call run) {
        asked++;
        try {
            report(call + " answered " + hex(run.run()) + ", due is an IllegalArgumentException");
        } catch (IllegalArgumentException e) {
            if (e.getClass() != IllegalArgumentException.class) {
                report(call + " threw " + e + ", due is an IllegalArgumentException itself");
            }
        }
    }

    void holds(String what, boolean held) {
        asked++;
        if (!held) {
            report(what);
        }
    }

    void finish() {
        System.out.println(test + ": " + asked + " answers, " + wrong + " not as due");
        if (asked == 0 || wrong != 0) {
            System.exit(1);
        }
    }

    private void report(String text) {
        wrong++;
        if (wrong <= MOST_PRINTED) {
            System.out.println(test + ": " + text);
        }
    }

    private static String hex(long value) {
        return value + " (0x" + Long.toHexString(value) + ")";
    }
}
