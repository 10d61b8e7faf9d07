/** Promise 3: nudge moves the step. */
public final class Promise3NudgeTest {
    public static void main(String[] args) {
        Sentences.holds("nudge accepts every int in every state", Promise3NudgeTest::manyDistancesInEveryState);
        Sentences.holds("the sum is taken exactly, with no 32-bit wrap-around", Promise3NudgeTest::sumDoesNotWrap);
        Sentences.holds("if the exact sum is below 0, the new step is 0", Promise3NudgeTest::sumBelowZero);
        Sentences.holds("if the exact sum is above 127, the new step is 127", Promise3NudgeTest::sumAbove127);
        Sentences.holds("otherwise the new step is the exact sum", Promise3NudgeTest::sumBetween);
        Sentences.holds("it answers the new step, which is always in 0..127", Promise3NudgeTest::answersTheNewStep);
        Sentences.holds("the table MAN does not change", Promise3NudgeTest::tableIsKept);
        Sentences.holds("nudge(0) leaves the step as it is and answers it", Promise3NudgeTest::nudgeByZero);
        Sentences.holds("with step 100, nudge(Integer.MAX_VALUE) sets and answers 127",
            () -> nudged(100, Integer.MAX_VALUE, 127));
        Sentences.holds("with step 5, nudge(Integer.MIN_VALUE) sets and answers 0",
            () -> nudged(5, Integer.MIN_VALUE, 0));
        Sentences.holds("with step 127, nudge(-1) sets and answers 126, no longer fully muted",
            Promise3NudgeTest::outOfMute);
        Sentences.holds("with step 0, nudge(-1) answers 0 and the step stays 0", () -> nudged(0, -1, 0));
        Sentences.holds("a nudge that lands exactly on 127 makes apply answer 0", Promise3NudgeTest::landingOn127);
        Sentences.endOfTest();
    }

    private static void nudged(int step, int d, int want) {
        nudged(Faders.atStep(step), step, d, want);
        nudged(Faders.fromMuteDownTo(step), step, d, want);
    }

    private static void nudged(DbFader x, int step, int d, int want) {
        Sentences.dueNudge(x, step, d, want);
        Sentences.due("step " + step + ", after nudge(" + d + "): step()", x.step(), want);
    }

    private static void manyDistancesInEveryState() {
        for (int step = 0; step <= 127; step++) {
            for (int d : Faders.DISTANCES) {
                Sentences.dueNudge(Faders.atStep(step), step, d, Faders.dueStep(step, d));
            }
        }
    }

    private static void sumDoesNotWrap() {
        for (int step = 1; step <= 127; step++) {
            // The smallest distance whose sum leaves the ints, the last one that does not, and the greatest.
            int leaves = Integer.MAX_VALUE - step + 1;
            nudged(step, leaves, 127);
            nudged(step, leaves - 1, 127);
            nudged(step, Integer.MAX_VALUE, 127);
        }
    }

    private static void sumBelowZero() {
        for (int step = 0; step <= 127; step++) {
            nudged(step, -step - 1, 0);
            nudged(step, -step - 128, 0);
            nudged(step, -step - 129, 0);
            nudged(step, -step - 256, 0);
            nudged(step, Integer.MIN_VALUE, 0);
            nudged(step, Integer.MIN_VALUE + 1, 0);
        }
    }

    private static void sumAbove127() {
        for (int step = 0; step <= 127; step++) {
            nudged(step, 128 - step, 127);
            nudged(step, 255 - step, 127);
            nudged(step, 256 - step, 127);
            nudged(step, 65536 - step, 127);
            nudged(step, Integer.MAX_VALUE, 127);
            nudged(step, Integer.MAX_VALUE - 127, 127);
        }
    }

    private static void sumBetween() {
        for (int step = 0; step <= 127; step++) {
            for (int sum = 0; sum <= 127; sum++) {
                nudged(step, sum - step, sum);
            }
        }
    }

    private static void answersTheNewStep() {
        DbFader x = new DbFader();
        for (int call = 0; call < 200; call++) {
            for (int d : Faders.DISTANCES) {
                int answered = x.nudge(call % 2 == 0 ? d : -d);
                Sentences.dueWithin("nudge", d, answered, 0, 127);
                Sentences.dueStep(x, "after nudge", answered);
            }
        }
    }

    private static void tableIsKept() {
        DbFader x = new DbFader();
        for (int d : Faders.DISTANCES) {
            x.nudge(d);
        }
        Sentences.due("MAN after nudges", new String(Faders.table(x)), new String(Faders.TABLE));
        x.nudge(-127);
        Sentences.dueApply(x, 0, 32767, 32766);
    }

    private static void nudgeByZero() {
        for (int step = 0; step <= 127; step++) {
            nudged(step, 0, step);
        }
    }

    private static void outOfMute() {
        nudged(127, -1, 126);
        DbFader muted = new DbFader();
        muted.mute();
        Sentences.dueNudge(muted, 127, -1, 126);
        Sentences.dueStep(muted, "after mute() and nudge(-1)", 126);
        Sentences.dueApply(muted, 126, 32767, 22);
        Sentences.dueApply(muted, 126, -1, -1);
    }

    private static void landingOn127() {
        for (int step = 0; step <= 126; step++) {
            DbFader x = Faders.atStep(step);
            x.nudge(127 - step);
            for (int s = Short.MIN_VALUE; s <= Short.MAX_VALUE; s++) {
                Sentences.dueApply(x, 127, s, 0);
            }
        }
    }
}
