/** Promise 5: step reports the step. */
public final class Promise5StepTest {
    public static void main(String[] args) {
        Sentences.holds("step() answers the present step, a value in 0..127", Promise5StepTest::answersThePresentStep);
        Sentences.holds("it changes no state", Promise5StepTest::changesNoState);
        Sentences.holds("it answers 0 on a newly constructed fader", Promise5StepTest::zeroOnANewFader);
        Sentences.holds("it answers the value most recently answered by nudge", Promise5StepTest::followsTheLastNudge);
        Sentences.holds("it answers 127 when mute was the last step-changing call", Promise5StepTest::followsMute);
        Sentences.holds("calls to apply never change what it answers", Promise5StepTest::applyDoesNotChangeIt);
        Sentences.holds("calls to step never change what it answers", Promise5StepTest::askingDoesNotChangeIt);
        Sentences.endOfTest();
    }

    private static void answersThePresentStep() {
        for (int step = 0; step <= 127; step++) {
            Sentences.dueStep(Faders.atStep(step), "raised to " + step, step);
            Sentences.dueStep(Faders.fromMuteDownTo(step), "lowered to " + step, step);
        }
    }

    private static void changesNoState() {
        for (int step = 0; step <= 127; step++) {
            DbFader x = Faders.atStep(step);
            String before = Faders.inside(x);
            x.step();
            Sentences.due("step " + step + ": the inside after step()", Faders.inside(x), before);
        }
    }

    private static void zeroOnANewFader() {
        Faders.atStep(127).step();
        Sentences.dueStep(new DbFader(), "new", 0);
    }

    private static void followsTheLastNudge() {
        DbFader x = new DbFader();
        int[] distances = {3, 0, 60, -1, 64, 1, 1, -40, Integer.MIN_VALUE, -1, 127, Integer.MAX_VALUE, -2};
        int[] answers = {3, 3, 63, 62, 126, 127, 127, 87, 0, 0, 127, 127, 125};
        for (int i = 0; i < distances.length; i++) {
            Sentences.due("nudge(" + distances[i] + ")", x.nudge(distances[i]), answers[i]);
            x.apply((short) 1000);
            Sentences.dueStep(x, "after nudge(" + distances[i] + ")", answers[i]);
        }
        x.mute();
        x.nudge(-20);
        Sentences.dueStep(x, "after mute() and nudge(-20)", 107);
    }

    private static void followsMute() {
        for (int step = 0; step <= 127; step++) {
            DbFader x = Faders.atStep(step);
            x.mute();
            x.apply((short) 1000);
            Sentences.dueStep(x, "muted from " + step, 127);
        }
    }

    private static void applyDoesNotChangeIt() {
        for (int step = 0; step <= 127; step++) {
            DbFader x = Faders.atStep(step);
            for (int s = Short.MIN_VALUE; s <= Short.MAX_VALUE; s++) {
                x.apply((short) s);
                if (x.step() != step) {
                    Sentences.dueStep(x, "step " + step + " after apply((short) " + s + ")", step);
                    break;
                }
            }
            Sentences.dueStep(x, "step " + step + " after every sample", step);
        }
    }

    private static void askingDoesNotChangeIt() {
        for (int step = 0; step <= 127; step++) {
            DbFader x = Faders.atStep(step);
            for (int asked = 1; asked <= 300; asked++) {
                Sentences.due("step " + step + ": step(), time " + asked, x.step(), step);
            }
        }
    }
}
