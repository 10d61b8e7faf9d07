/** Promise 5: step reports the present step and changes nothing. */
public final class Promise5StepTest {
    private static int wrong = 0;

    private static void due(String call, long got, long want) {
        if (got != want) {
            wrong++;
            System.out.println(call + " answered " + got + ", due is " + want);
        }
    }

    public static void main(String[] args) {
        due("new: step()", new DbFader().step(), 0);
        stepFollowsTheLastNudge();
        stepFollowsMute();
        applyAndStepChangeNothing();
        if (wrong != 0) {
            System.exit(1);
        }
    }

    private static void stepFollowsTheLastNudge() {
        DbFader x = new DbFader();
        int[] distances = {3, 0, 60, -1, 64, 1, 1, -40, Integer.MIN_VALUE, -1, 127, Integer.MAX_VALUE, -2};
        int[] steps = {3, 3, 63, 62, 126, 127, 127, 87, 0, 0, 127, 127, 125};
        for (int i = 0; i < distances.length; i++) {
            int answered = x.nudge(distances[i]);
            due("nudge(" + distances[i] + ")", answered, steps[i]);
            due("step() after nudge(" + distances[i] + ")", x.step(), steps[i]);
        }
    }

    private static void stepFollowsMute() {
        DbFader x = new DbFader();
        x.mute();
        due("step() after mute()", x.step(), 127);
        x.nudge(-20);
        due("step() after mute(), nudge(-20)", x.step(), 107);
        x.mute();
        due("step() after a second mute()", x.step(), 127);
    }

    private static void applyAndStepChangeNothing() {
        for (int step = 0; step <= 127; step++) {
            DbFader x = new DbFader();
            x.nudge(step);
            for (int call = 0; call < 300; call++) {
                x.apply((short) (call * 219 - 32768));
                due("step " + step + ": step(), call " + call, x.step(), step);
            }
            due("step " + step + ": nudge(0) after reading", x.nudge(0), step);
        }
    }
}
