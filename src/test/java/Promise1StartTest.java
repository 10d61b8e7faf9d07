/** Promise 1: construction and start state. */
public final class Promise1StartTest {
    public static void main(String[] args) {
        Sentences.holds("new DbFader() creates a fader whose step is 0", Promise1StartTest::startsAtStepZero);
        Sentences.holds("its table MAN holds the twelve values in order", Promise1StartTest::tableIsFilled);
        Sentences.holds("no public method changes the table afterwards", Promise1StartTest::tableIsKept);
        Sentences.holds("directly after construction step() answers 0", Promise1StartTest::firstCallOfStep);
        Sentences.holds("directly after construction apply(s) follows the rule of step 0", Promise1StartTest::firstCallOfApply);
        Sentences.holds("the constructor does not throw", Promise1StartTest::constructionAgainAndAgain);
        Sentences.holds("the step is never affected by nudge on another fader", Promise1StartTest::nudgeOnAnother);
        Sentences.holds("the step is never affected by mute on another fader", Promise1StartTest::muteOnAnother);
        Sentences.holds("the step is never affected by apply and step on another fader", Promise1StartTest::readingAnother);
        Sentences.holds("the step is never affected by another construction", Promise1StartTest::constructionOfAnother);
        Sentences.endOfTest();
    }

    private static void startsAtStepZero() {
        Sentences.due("new: nudge(0)", new DbFader().nudge(0), 0);
        Sentences.due("new: nudge(1)", new DbFader().nudge(1), 1);
        Sentences.due("new: mute()", new DbFader().mute(), 0);
    }

    private static void tableIsFilled() {
        tableHolds("new", new DbFader());
    }

    private static void tableHolds(String when, DbFader x) {
        char[] table = Faders.table(x);
        Sentences.due(when + ": length of MAN", table.length, Faders.TABLE.length);
        for (int i = 0; i < Faders.TABLE.length; i++) {
            Sentences.due(when + ": MAN[" + i + "]", (int) table[i], (int) Faders.TABLE[i]);
        }
    }

    private static void tableIsKept() {
        DbFader x = new DbFader();
        for (int step = 0; step <= 127; step++) {
            x.nudge(step - x.step());
            x.apply((short) 32767);
            x.apply((short) -32768);
        }
        tableHolds("after nudge, step and apply at every step", x);
        x.mute();
        x.mute();
        x.apply((short) 1);
        x.nudge(Integer.MIN_VALUE);
        x.nudge(Integer.MAX_VALUE);
        tableHolds("after mute and the farthest nudges", x);
    }

    private static void firstCallOfStep() {
        Sentences.dueStep(new DbFader(), "new", 0);
    }

    private static void firstCallOfApply() {
        for (int s = Short.MIN_VALUE; s <= Short.MAX_VALUE; s++) {
            Sentences.dueApply(new DbFader(), 0, s, (int) (((long) s * 65535) >> 16));
        }
    }

    private static void constructionAgainAndAgain() {
        for (int made = 1; made <= 100000; made++) {
            DbFader x = new DbFader();
            Sentences.dueStep(x, "fader number " + made, 0);
            x.mute();
        }
    }

    private static void nudgeOnAnother() {
        DbFader kept = Faders.atStep(40);
        DbFader fresh = new DbFader();
        DbFader other = new DbFader();
        for (int d : new int[] {1, 126, -1, -50, Integer.MIN_VALUE, Integer.MAX_VALUE}) {
            other.nudge(d);
            isAsItWas(kept, "other.nudge(" + d + ")");
            Sentences.dueStep(fresh, "after other.nudge(" + d + ")", 0);
        }
        Sentences.dueStep(new DbFader(), "made after the nudges", 0);
    }

    private static void muteOnAnother() {
        DbFader kept = Faders.atStep(40);
        DbFader fresh = new DbFader();
        DbFader other = new DbFader();
        other.mute();
        isAsItWas(kept, "other.mute()");
        Sentences.dueStep(fresh, "after other.mute()", 0);
        Sentences.dueApply(fresh, 0, 32767, 32766);
        Sentences.dueStep(new DbFader(), "made after other.mute()", 0);
        Sentences.dueApply(other, 127, 32767, 0);
    }

    private static void readingAnother() {
        DbFader kept = Faders.atStep(40);
        DbFader other = Faders.atStep(90);
        other.apply((short) -32768);
        isAsItWas(kept, "other.apply((short) -32768)");
        other.step();
        isAsItWas(kept, "other.step()");
    }

    private static void constructionOfAnother() {
        DbFader kept = Faders.atStep(40);
        DbFader muted = Faders.atStep(127);
        new DbFader();
        isAsItWas(kept, "another construction");
        Sentences.dueStep(muted, "after another construction", 127);
    }

    private static void isAsItWas(DbFader kept, String call) {
        Sentences.dueStep(kept, "after " + call, 40);
        Sentences.due("after " + call + ": apply((short) 32767)", kept.apply((short) 32767), 3250);
    }
}
