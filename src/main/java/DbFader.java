/** A half-dB step fader for 16-bit samples. */
public final class DbFader {
    private static final int MUTED = 127;
    private static final int STEPS_PER_HALVING = 12;
    private static final int MANTISSA_BITS = 16;

    // char, because the mantissas are unsigned 16-bit values and a short would make them negative.
    private final char[] MAN = new char[STEPS_PER_HALVING];

    // Never negative, so its remainder by the table length is always a valid index.
    private byte step = 0;

    public DbFader() {
        MAN[0] = 65535;
        MAN[1] = 61858;
        MAN[2] = 58386;
        MAN[3] = 55109;
        MAN[4] = 52016;
        MAN[5] = 49097;
        MAN[6] = 46341;
        MAN[7] = 43740;
        MAN[8] = 41285;
        MAN[9] = 38968;
        MAN[10] = 36781;
        MAN[11] = 34716;
    }

    public int apply(short s) {
        if (step == MUTED) {
            return 0;
        }
        long product = (long) s * MAN[step % STEPS_PER_HALVING];
        // The sign-keeping shift, because a negative sample is rounded down and never reaches 0.
        return (int) (product >> (MANTISSA_BITS + step / STEPS_PER_HALVING));
    }

    public int nudge(int d) {
        // Summed as long, because an int sum would wrap for a large d.
        step = clampedStep((long) step + d);
        return step;
    }

    public int mute() {
        int before = step;
        step = MUTED;
        return before;
    }

    public int step() {
        return step;
    }

    private static byte clampedStep(long sum) {
        if (sum < 0) {
            return 0;
        }
        if (sum > MUTED) {
            return MUTED;
        }
        return (byte) sum;
    }
}
