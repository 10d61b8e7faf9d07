/** Promise 2: apply scales a sample. */
public final class Promise2ApplyTest {
    public static void main(String[] args) {
        Sentences.holds("apply changes no state", Promise2ApplyTest::changesNoState);
        Sentences.holds("if the step is 127, the answer is 0, whatever s is", Promise2ApplyTest::step127AnswersZero);
        Sentences.holds("otherwise product and shift, for every s and every step", Promise2ApplyTest::everySampleAtEveryStep);
        Sentences.holds("the mantissa is used as its unsigned value", Promise2ApplyTest::mantissaIsUnsigned);
        Sentences.holds("the shift keeps the sign and rounds towards minus infinity", Promise2ApplyTest::roundsDown);
        Sentences.holds("the index runs through 0..11", Promise2ApplyTest::indexRunsThroughTheTable);
        Sentences.holds("the shift runs from 16 (steps 0..11) up to 26 (steps 120..126)", Promise2ApplyTest::shiftGrowsEveryTwelveSteps);
        Sentences.holds("the product never overflows", Promise2ApplyTest::greatestProducts);
        Sentences.holds("the answer always lies in -32768..32767", Promise2ApplyTest::answerIsInTheRangeOfSamples);
        Sentences.holds("in 0..126 a negative s gives at most -1, never 0", Promise2ApplyTest::negativeStaysNegative);
        Sentences.holds("apply((short) -1) answers -1 for every step in 0..126", Promise2ApplyTest::minusOneStaysMinusOne);
        Sentences.holds("at step 127 a negative s answers 0", Promise2ApplyTest::negativeAtStep127);
        Sentences.holds("apply((short) 0) answers 0 for every step, 127 included", Promise2ApplyTest::zeroStaysZero);
        Sentences.holds("step 0: apply((short) 32767) answers 32766", () -> example(0, 32767, 32766));
        Sentences.holds("step 0: apply((short) -32768) answers -32768", () -> example(0, -32768, -32768));
        Sentences.holds("step 0: apply((short) 1) answers 0", () -> example(0, 1, 0));
        Sentences.holds("step 0: apply((short) -1) answers -1", () -> example(0, -1, -1));
        Sentences.holds("step 12: apply((short) 32767) answers 16383", () -> example(12, 32767, 16383));
        Sentences.holds("step 126: apply((short) 32767) answers 22", () -> example(126, 32767, 22));
        Sentences.holds("step 126: apply((short) -32768) answers -23", () -> example(126, -32768, -23));
        Sentences.endOfTest();
    }

    private static void example(int step, int s, int want) {
        Sentences.dueApply(Faders.atStep(step), step, s, want);
        Sentences.dueApply(Faders.fromMuteDownTo(step), step, s, want);
    }

    private static void changesNoState() {
        for (int step = 0; step <= 127; step++) {
            DbFader x = Faders.atStep(step);
            String before = Faders.inside(x);
            for (int s = Short.MIN_VALUE; s <= Short.MAX_VALUE; s++) {
                x.apply((short) s);
                if (x.step() != step) {
                    Sentences.dueStep(x, "step " + step + " after apply((short) " + s + ")", step);
                    break;
                }
            }
            Sentences.due("step " + step + ": the inside after every sample", Faders.inside(x), before);
        }
    }

    private static void step127AnswersZero() {
        DbFader x = Faders.atStep(127);
        for (int s = Short.MIN_VALUE; s <= Short.MAX_VALUE; s++) {
            Sentences.dueApply(x, 127, s, 0);
        }
    }

    private static void everySampleAtEveryStep() {
        for (int step = 0; step <= 126; step++) {
            DbFader x = Faders.atStep(step);
            for (int s = Short.MIN_VALUE; s <= Short.MAX_VALUE; s++) {
                Sentences.dueApply(x, step, s, Faders.dueAnswer(step, s));
            }
        }
    }

    /** Every mantissa is above 32767, so that each would turn the sign if it were taken as a signed value. */
    private static void mantissaIsUnsigned() {
        for (int step = 0; step <= 11; step++) {
            DbFader x = Faders.atStep(step);
            Sentences.dueWithin("step " + step + ": apply", 32767, x.apply((short) 32767), 1, 32767);
            Sentences.dueWithin("step " + step + ": apply", -32768, x.apply((short) -32768), -32768, -1);
        }
    }

    /** None of these products is a whole number before rounding: 3 at step 6 comes to 2.12, -3 to -2.12. */
    private static void roundsDown() {
        Sentences.dueApply(Faders.atStep(6), 6, 3, 2);
        Sentences.dueApply(Faders.atStep(6), 6, -3, -3);
        Sentences.dueApply(Faders.atStep(12), 12, -2, -1);
        Sentences.dueApply(Faders.atStep(12), 12, -3, -2);
        Sentences.dueApply(Faders.atStep(126), 126, 2896, 1);
        Sentences.dueApply(Faders.atStep(126), 126, -2896, -2);
    }

    private static void indexRunsThroughTheTable() {
        int[] answers = {32766, 30928, 29192, 27553, 26007, 24547, 23169, 21869, 20641, 19483, 18389, 17357};
        for (int step = 0; step <= 11; step++) {
            Sentences.dueApply(Faders.atStep(step), step, 32767, answers[step]);
        }
    }

    private static void shiftGrowsEveryTwelveSteps() {
        int[] answersAtFirstIndex = {32766, 16383, 8191, 4095, 2047, 1023, 511, 255, 127, 63, 31};
        int[] answersAtLastIndex = {17357, 8678, 4339, 2169, 1084, 542, 271, 135, 67, 33};
        for (int halvings = 0; halvings <= 10; halvings++) {
            int first = 12 * halvings;
            Sentences.dueApply(Faders.atStep(first), first, 32767, answersAtFirstIndex[halvings]);
        }
        for (int halvings = 0; halvings <= 9; halvings++) {
            int last = 12 * halvings + 11;
            Sentences.dueApply(Faders.atStep(last), last, 32767, answersAtLastIndex[halvings]);
        }
        Sentences.dueApply(Faders.atStep(126), 126, 32767, 22);
    }

    private static void greatestProducts() {
        for (int step = 0; step <= 126; step++) {
            DbFader x = Faders.atStep(step);
            Sentences.dueApply(x, step, 32767, Faders.dueAnswer(step, 32767));
            Sentences.dueApply(x, step, -32768, Faders.dueAnswer(step, -32768));
        }
    }

    private static void answerIsInTheRangeOfSamples() {
        for (int step = 0; step <= 126; step++) {
            DbFader x = Faders.atStep(step);
            for (int s = Short.MIN_VALUE; s <= Short.MAX_VALUE; s++) {
                Sentences.dueWithin("apply", s, x.apply((short) s), -32768, 32767);
            }
        }
    }

    private static void negativeStaysNegative() {
        for (int step = 0; step <= 126; step++) {
            DbFader x = Faders.atStep(step);
            for (int s = Short.MIN_VALUE; s <= -1; s++) {
                Sentences.dueWithin("apply", s, x.apply((short) s), -32768, -1);
            }
        }
    }

    private static void minusOneStaysMinusOne() {
        for (int step = 0; step <= 126; step++) {
            Sentences.dueApply(Faders.atStep(step), step, -1, -1);
        }
    }

    private static void negativeAtStep127() {
        DbFader x = Faders.atStep(127);
        for (int s = Short.MIN_VALUE; s <= -1; s++) {
            Sentences.dueApply(x, 127, s, 0);
        }
    }

    private static void zeroStaysZero() {
        for (int step = 0; step <= 127; step++) {
            Sentences.dueApply(Faders.atStep(step), step, 0, 0);
        }
    }
}
