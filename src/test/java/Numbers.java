/** The numbers that the document names, by their bits, for each of the two formats. */
enum Numbers {
    WIDE(false, 53, 1023),
    NARROW(true, 24, 127);

    final boolean narrow;
    final int precision;
    final int bias;
    final long minus;
    final long least = 1;
    final long leastUsual;
    /** The greatest with x 0. */
    final long greatestSmall;
    final long quarter;
    final long half;
    final long one;
    final long two;
    final long three;
    final long greatest;
    final long endless;
    final long none;

    Numbers(boolean narrow, int precision, int bias) {
        this.narrow = narrow;
        this.precision = precision;
        this.bias = bias;
        this.minus = narrow ? 1L << 31 : 1L << 63;
        this.leastUsual = 1L << (precision - 1);
        this.greatestSmall = leastUsual - 1;
        this.quarter = power(-2);
        this.half = power(-1);
        this.one = power(0);
        this.two = power(1);
        this.three = power(1) | 1L << (precision - 2);
        this.endless = (2L * bias + 1) << (precision - 1);
        this.greatest = endless - 1;
        this.none = endless | 1L << (precision - 2);
    }

    /** 2 ** exponent, for x from 1 to 2 * B. */
    long power(int exponent) {
        return (long) (exponent + bias) << (precision - 1);
    }

    /** Every form of NONE: the highest bit of f, the lowest, all but the highest, all; both signs. */
    long[] nones() {
        long[] sizes = {none, endless + 1, none - 1, minus - 1};
        return withBothSigns(sizes);
    }

    /** Finite numbers that are not ZERO, with both signs. */
    long[] finite() {
        return withBothSigns(new long[] {least, greatestSmall, leastUsual, one, three, greatest});
    }

    long[] zeros() {
        return new long[] {0, minus};
    }

    /** ZERO, finite numbers, ENDLESS, with both signs: all but NONE. */
    long[] all() {
        return withBothSigns(new long[] {0, least, greatestSmall, leastUsual, one, three, greatest,
            endless});
    }

    long[] withBothSigns(long[] sizes) {
        long[] both = new long[2 * sizes.length];
        for (int i = 0; i < sizes.length; i++) {
            both[2 * i] = sizes[i];
            both[2 * i + 1] = sizes[i] | minus;
        }
        return both;
    }

    boolean isMinus(long bits) {
        return (bits & minus) != 0;
    }

    long signed(boolean minus, long size) {
        return minus ? size | this.minus : size;
    }

    /** The size with a minus if just one of two numbers has one. */
    long bySigns(long x, long y, long size) {
        return signed(isMinus(x) != isMinus(y), size);
    }
}
