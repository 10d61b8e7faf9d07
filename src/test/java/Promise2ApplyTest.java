/** Promise 2: apply scales a sample by the present step and changes nothing. */
public final class Promise2ApplyTest {
    private static final int[] TABLE = {
        65535, 61858, 58386, 55109, 52016, 49097, 46341, 43740, 41285, 38968, 36781, 34716
    };
    private static int wrong = 0;

    private static void due(String call, long got, long want) {
        if (got != want) {
            wrong++;
            System.out.println(call + " answered " + got + ", due is " + want);
        }
    }

    public static void main(String[] args) {
        edgesOfTheDocument();
        everySampleAtEveryStep();
        if (wrong != 0) {
            System.exit(1);
        }
    }

    private static DbFader atStep(int step) {
        DbFader x = new DbFader();
        x.nudge(step);
        return x;
    }

    private static void edge(int step, int s, int want) {
        due("step " + step + ": apply(" + s + ")", atStep(step).apply((short) s), want);
    }

    private static void edgesOfTheDocument() {
        edge(0, 32767, 32766);
        edge(0, -32768, -32768);
        edge(0, 1, 0);
        edge(0, -1, -1);
        edge(0, 0, 0);
        edge(12, 32767, 16383);
        edge(126, 32767, 22);
        edge(126, -32768, -23);
        edge(126, -1, -1);
        edge(126, 0, 0);
        edge(127, 32767, 0);
        edge(127, -32768, 0);
        edge(127, -1, 0);
        edge(127, 0, 0);
    }

    /** Floor division by a power of two, so that the oracle does not lean on the shift it checks. */
    private static long dueAnswer(int step, int s) {
        if (step == 127) {
            return 0;
        }
        long divisor = 65536;
        int rest = step;
        while (rest >= 12) {
            divisor *= 2;
            rest -= 12;
        }
        return Math.floorDiv((long) s * TABLE[rest], divisor);
    }

    private static void everySampleAtEveryStep() {
        for (int step = 0; step <= 127; step++) {
            DbFader x = atStep(step);
            for (int s = Short.MIN_VALUE; s <= Short.MAX_VALUE; s++) {
                int got = x.apply((short) s);
                if (got != dueAnswer(step, s)) {
                    due("step " + step + ": apply(" + s + ")", got, dueAnswer(step, s));
                    break;
                }
                if (x.step() != step) {
                    due("step " + step + ": step() after apply(" + s + ")", x.step(), step);
                    break;
                }
            }
        }
    }
}
