import java.math.BigInteger;

/** Promise 3: nudge moves the step by the exact sum, clamped into 0..127. */
public final class Promise3NudgeTest {
    private static int wrong = 0;

    private static void due(String call, long got, long want) {
        if (got != want) {
            wrong++;
            System.out.println(call + " answered " + got + ", due is " + want);
        }
    }

    public static void main(String[] args) {
        edgesOfTheDocument();
        everyStepWithManyDistances();
        runOfNudges();
        landingOn127Silences();
        if (wrong != 0) {
            System.exit(1);
        }
    }

    private static DbFader atStep(int step) {
        DbFader x = new DbFader();
        x.nudge(step);
        return x;
    }

    private static void nudged(int step, int d, int want) {
        DbFader x = atStep(step);
        due("step " + step + ": nudge(" + d + ")", x.nudge(d), want);
        due("step " + step + ": step() after nudge(" + d + ")", x.step(), want);
    }

    private static void edgesOfTheDocument() {
        nudged(64, 0, 64);
        nudged(0, 0, 0);
        nudged(127, 0, 127);
        nudged(100, Integer.MAX_VALUE, 127);
        nudged(5, Integer.MIN_VALUE, 0);
        nudged(127, -1, 126);
        nudged(0, -1, 0);
        nudged(127, 1, 127);
        nudged(126, 1, 127);
        nudged(1, -1, 0);
        nudged(127, -127, 0);
        nudged(0, 127, 127);
        nudged(0, 128, 127);

        DbFader x = new DbFader();
        x.mute();
        due("after mute: nudge(-1)", x.nudge(-1), 126);
        due("after mute and nudge(-1): apply(32767)", x.apply((short) 32767), 22);
    }

    private static int dueStep(int step, int d) {
        BigInteger sum = BigInteger.valueOf(step).add(BigInteger.valueOf(d));
        return sum.max(BigInteger.ZERO).min(BigInteger.valueOf(127)).intValue();
    }

    private static void everyStepWithManyDistances() {
        for (int step = 0; step <= 127; step++) {
            for (int d = -400; d <= 400; d++) {
                nudged(step, d, dueStep(step, d));
            }
            // Around each power of two a sum narrowed to byte, short or int would wrap.
            for (int bit = 7; bit <= 31; bit++) {
                for (int off = -130; off <= 130; off++) {
                    int up = (1 << bit) + off;
                    nudged(step, up, dueStep(step, up));
                    nudged(step, -up, dueStep(step, -up));
                }
            }
        }
    }

    private static void runOfNudges() {
        DbFader x = new DbFader();
        int step = 0;
        for (int call = 0; call < 5000; call++) {
            int d = (call * 7919) % 61 - 30;
            step = dueStep(step, d);
            due("call " + call + ": nudge(" + d + ")", x.nudge(d), step);
        }
    }

    private static void landingOn127Silences() {
        DbFader exact = atStep(100);
        exact.nudge(27);
        DbFader clamped = atStep(100);
        clamped.nudge(1000);
        for (int s = Short.MIN_VALUE; s <= Short.MAX_VALUE; s++) {
            due("nudged onto 127: apply(" + s + ")", exact.apply((short) s), 0);
            due("clamped to 127: apply(" + s + ")", clamped.apply((short) s), 0);
        }
    }
}
