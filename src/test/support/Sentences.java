/** Tries the document's sentences one by one, and tells which of them a wrong answer breaks. */
final class Sentences {
    private static final int TOLD_PER_SENTENCE = 10;

    private static int broken = 0;
    private static String sentence;
    private static long compared;
    private static long wrong;

    private Sentences() {
    }

    static void holds(String words, Runnable test) {
        sentence = words;
        compared = 0;
        wrong = 0;
        try {
            test.run();
        } catch (Throwable thrown) {
            tellWrong("threw " + thrown);
        }
        // A test that compares nothing would pass for any program.
        if (compared == 0) {
            tellWrong("nothing was compared");
        }
        if (wrong != 0) {
            broken++;
        }
    }

    static void endOfTest() {
        if (broken != 0) {
            System.out.println("sentences broken: " + broken);
            System.exit(1);
        }
    }

    static void due(String call, Object got, Object want) {
        compared++;
        if (!got.equals(want)) {
            tellWrong(call + " answered " + got + ", due is " + want);
        }
    }

    // The sweeps make millions of calls, so these put the call into words only when its answer is wrong.

    static void dueApply(DbFader x, int step, int s, long want) {
        int got = x.apply((short) s);
        compared++;
        if (got != want) {
            tellWrong("step " + step + ": apply((short) " + s + ") answered " + got + ", due is " + want);
        }
    }

    static void dueNudge(DbFader x, int step, int d, int want) {
        int got = x.nudge(d);
        compared++;
        if (got != want) {
            tellWrong("step " + step + ": nudge(" + d + ") answered " + got + ", due is " + want);
        }
    }

    static void dueStep(DbFader x, String when, int want) {
        int got = x.step();
        compared++;
        if (got != want) {
            tellWrong(when + ": step() answered " + got + ", due is " + want);
        }
    }

    static void dueWithin(String call, int argument, int got, int least, int greatest) {
        compared++;
        if (got < least || got > greatest) {
            tellWrong(call + " with " + argument + " answered " + got + ", due is " + least + ".." + greatest);
        }
    }

    private static void tellWrong(String what) {
        wrong++;
        if (wrong == 1) {
            System.out.println("broken: " + sentence);
        }
        if (wrong <= TOLD_PER_SENTENCE) {
            System.out.println("    " + what);
        }
    }
}
