/** Promise 4: mute silences. */
public final class Promise4MuteTest {
    public static void main(String[] args) {
        Sentences.holds("mute() sets the step to 127", Promise4MuteTest::setsStep127);
        Sentences.holds("and answers the step that held just before the call", Promise4MuteTest::answersTheStepBefore);
        Sentences.holds("the answer is in 0..127 and equals what step() would have answered", Promise4MuteTest::answersAsStepWould);
        Sentences.holds("if the step was already 127, the answer is 127 and it stays 127", Promise4MuteTest::muteOfTheMuted);
        Sentences.holds("after the call, step() answers 127", Promise4MuteTest::stepAfterMute);
        Sentences.holds("after the call, apply(s) answers 0 for every s", Promise4MuteTest::silence);
        Sentences.holds("until a later nudge moves the step", Promise4MuteTest::nudgeEndsTheSilence);
        Sentences.holds("the table MAN does not change", Promise4MuteTest::tableIsKept);
        Sentences.endOfTest();
    }

    private static DbFader mutedFrom(int step) {
        DbFader x = Faders.atStep(step);
        x.mute();
        return x;
    }

    private static void setsStep127() {
        for (int step = 0; step <= 127; step++) {
            Sentences.due("muted from " + step + ": nudge(0)", mutedFrom(step).nudge(0), 127);
        }
    }

    private static void answersTheStepBefore() {
        for (int step = 0; step <= 127; step++) {
            Sentences.due("step " + step + ": mute()", Faders.atStep(step).mute(), step);
        }
    }

    private static void answersAsStepWould() {
        DbFader x = new DbFader();
        for (int d : Faders.DISTANCES) {
            x.nudge(d);
            int reported = x.step();
            int answered = x.mute();
            Sentences.due("after nudge(" + d + "): mute()", answered, reported);
            Sentences.dueWithin("mute() after nudge", d, answered, 0, 127);
        }
    }

    private static void muteOfTheMuted() {
        DbFader x = Faders.atStep(127);
        for (int again = 1; again <= 300; again++) {
            Sentences.due("mute() at step 127, time " + again, x.mute(), 127);
            Sentences.dueStep(x, "muted again", 127);
        }
    }

    private static void stepAfterMute() {
        for (int step = 0; step <= 127; step++) {
            DbFader x = mutedFrom(step);
            Sentences.dueStep(x, "muted from " + step, 127);
            Sentences.dueStep(x, "muted from " + step + ", asked again", 127);
        }
    }

    private static void silence() {
        for (int step = 0; step <= 127; step++) {
            DbFader x = mutedFrom(step);
            for (int s = Short.MIN_VALUE; s <= Short.MAX_VALUE; s++) {
                Sentences.dueApply(x, 127, s, 0);
            }
        }
    }

    private static void nudgeEndsTheSilence() {
        for (int d = -126; d <= -1; d++) {
            DbFader x = mutedFrom(30);
            x.apply((short) 32767);
            x.step();
            Sentences.dueApply(x, 127, -32768, 0);
            // Neither moves the step, so neither ends the silence.
            x.nudge(0);
            x.nudge(1);
            Sentences.dueApply(x, 127, -32768, 0);
            x.nudge(d);
            Sentences.dueApply(x, 127 + d, -32768, Faders.dueAnswer(127 + d, -32768));
        }
    }

    private static void tableIsKept() {
        for (int step = 0; step <= 127; step++) {
            DbFader x = mutedFrom(step);
            Sentences.due("MAN, muted from " + step, new String(Faders.table(x)), new String(Faders.TABLE));
            x.nudge(-127);
            Sentences.dueApply(x, 0, 32767, 32766);
        }
    }
}
