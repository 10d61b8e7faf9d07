/** Promise 4: mute sets the step to 127 and answers the step before. */
public final class Promise4MuteTest {
    private static int wrong = 0;

    private static void due(String call, long got, long want) {
        if (got != want) {
            wrong++;
            System.out.println(call + " answered " + got + ", due is " + want);
        }
    }

    public static void main(String[] args) {
        muteFromEveryStep();
        silenceUntilANudge();
        if (wrong != 0) {
            System.exit(1);
        }
    }

    private static void muteFromEveryStep() {
        for (int step = 0; step <= 127; step++) {
            DbFader x = new DbFader();
            x.nudge(step);
            due("step " + step + ": mute()", x.mute(), step);
            due("step " + step + ": step() after mute()", x.step(), 127);
            due("step " + step + ": mute() again", x.mute(), 127);
            due("step " + step + ": step() after mute() again", x.step(), 127);
        }
    }

    private static void silenceUntilANudge() {
        DbFader x = new DbFader();
        x.nudge(30);
        x.mute();
        for (int s = Short.MIN_VALUE; s <= Short.MAX_VALUE; s++) {
            due("muted: apply(" + s + ")", x.apply((short) s), 0);
        }
        due("muted: step()", x.step(), 127);
        x.nudge(0);
        due("muted, nudge(0): apply(-1)", x.apply((short) -1), 0);
        due("muted: nudge(-127)", x.nudge(-127), 0);
        due("muted, nudge(-127): apply(32767)", x.apply((short) 32767), 32766);
        due("muted, nudge(-127): mute()", x.mute(), 0);
    }
}
