import java.lang.reflect.Constructor;
import java.lang.reflect.Field;
import java.lang.reflect.Method;
import java.lang.reflect.Modifier;
import java.util.ArrayList;
import java.util.Collections;
import java.util.List;
import java.util.Set;
import java.util.TreeSet;

/** "What it is", "The public face" and "Not promised": the state, the members, and that nothing throws. */
public final class WhatItIsTest {
    public static void main(String[] args) {
        Sentences.holds("its state is one step, a byte in 0..127, which is 0 at first", WhatItIsTest::stepIsAByte);
        Sentences.holds("and a char[12] table MAN", WhatItIsTest::tableIsTwelveChars);
        Sentences.holds("step 127 means full mute", WhatItIsTest::fullMute);
        Sentences.holds("the step is changed only by nudge and mute", WhatItIsTest::onlyNudgeAndMuteChangeTheStep);
        Sentences.holds("there are no public constants", WhatItIsTest::noPublicConstants);
        Sentences.holds("apply accepts every short in every state", WhatItIsTest::applyAcceptsAll);
        Sentences.holds("nudge accepts every int in every state", WhatItIsTest::nudgeAcceptsAll);
        Sentences.holds("mute is accepted in every state", WhatItIsTest::muteIsAcceptedInEveryState);
        Sentences.holds("step is accepted in every state", WhatItIsTest::stepIsAcceptedInEveryState);
        Sentences.holds("the public face", WhatItIsTest::publicFace);
        Sentences.holds("no toString, equals or hashCode is declared", WhatItIsTest::objectsOwnMethods);
        Sentences.endOfTest();
    }

    private static void stepIsAByte() {
        // A list, because a second step or table would be state beyond the document's.
        List<String> types = new ArrayList<>();
        for (Field field : DbFader.class.getDeclaredFields()) {
            if (!Modifier.isStatic(field.getModifiers())) {
                types.add(field.getType().getSimpleName());
            }
        }
        Collections.sort(types);
        Sentences.due("types of the state", types, List.of("byte", "char[]"));

        DbFader x = new DbFader();
        Sentences.dueStep(x, "at first", 0);
        for (int d : Faders.DISTANCES) {
            x.nudge(d);
            Sentences.dueWithin("step() after nudge", d, x.step(), 0, 127);
        }
    }

    private static void tableIsTwelveChars() {
        Sentences.due("length of MAN", Faders.table(new DbFader()).length, 12);
    }

    private static void fullMute() {
        DbFader x = Faders.atStep(127);
        Sentences.dueApply(x, 127, 32767, 0);
        Sentences.dueApply(x, 127, -32768, 0);
        Sentences.dueApply(Faders.atStep(126), 126, 32767, 22);
    }

    private static void onlyNudgeAndMuteChangeTheStep() {
        for (int step = 0; step <= 127; step++) {
            DbFader x = Faders.atStep(step);
            x.apply((short) 32767);
            Sentences.dueStep(x, "step " + step + " after apply", step);
            x.step();
            Sentences.dueStep(x, "step " + step + " after step", step);
            new DbFader();
            Sentences.dueStep(x, "step " + step + " after a construction", step);
        }
        DbFader moved = new DbFader();
        moved.nudge(1);
        Sentences.dueStep(moved, "after nudge(1)", 1);
        moved.mute();
        Sentences.dueStep(moved, "after mute()", 127);
    }

    private static void noPublicConstants() {
        Sentences.due("number of public fields", DbFader.class.getFields().length, 0);
    }

    private static void applyAcceptsAll() {
        for (int step = 0; step <= 127; step++) {
            DbFader raised = Faders.atStep(step);
            DbFader lowered = Faders.fromMuteDownTo(step);
            for (int s = Short.MIN_VALUE; s <= Short.MAX_VALUE; s++) {
                raised.apply((short) s);
                lowered.apply((short) s);
            }
            Sentences.dueStep(raised, "raised to " + step + ", after every sample", step);
            Sentences.dueStep(lowered, "lowered to " + step + ", after every sample", step);
        }
    }

    private static void nudgeAcceptsAll() {
        // A prime stride, so that the whole range is crossed without meeting the same low bits again and again.
        int stride = 65521;
        DbFader x = new DbFader();
        for (int step = 0; step <= 127; step++) {
            for (long d = Integer.MIN_VALUE; d <= Integer.MAX_VALUE; d += stride) {
                x.nudge(-127);
                x.nudge(step);
                Sentences.dueNudge(x, step, (int) d, Faders.dueStep(step, (int) d));
            }
        }
    }

    private static void muteIsAcceptedInEveryState() {
        for (int step = 0; step <= 127; step++) {
            Sentences.due("raised to " + step + ": mute()", Faders.atStep(step).mute(), step);
            Sentences.due("lowered to " + step + ": mute()", Faders.fromMuteDownTo(step).mute(), step);
        }
    }

    private static void stepIsAcceptedInEveryState() {
        for (int step = 0; step <= 127; step++) {
            Sentences.dueStep(Faders.atStep(step), "raised to " + step, step);
            Sentences.dueStep(Faders.fromMuteDownTo(step), "lowered to " + step, step);
        }
    }

    private static void publicFace() {
        Set<String> face = new TreeSet<>();
        for (Constructor<?> member : DbFader.class.getDeclaredConstructors()) {
            addUnlessPrivate(face, member.getModifiers(), member.toString());
        }
        for (Method member : DbFader.class.getDeclaredMethods()) {
            addUnlessPrivate(face, member.getModifiers(), member.toString());
        }
        for (Field member : DbFader.class.getDeclaredFields()) {
            addUnlessPrivate(face, member.getModifiers(), member.toString());
        }
        Sentences.due("modifiers of the class", DbFader.class.getModifiers(), Modifier.PUBLIC | Modifier.FINAL);
        Sentences.due("members that are not private", face, new TreeSet<>(Set.of(
            "public DbFader()",
            "public int DbFader.apply(short)",
            "public int DbFader.nudge(int)",
            "public int DbFader.mute()",
            "public int DbFader.step()")));
    }

    private static void addUnlessPrivate(Set<String> face, int modifiers, String member) {
        if (!Modifier.isPrivate(modifiers)) {
            face.add(member);
        }
    }

    private static void objectsOwnMethods() {
        try {
            Sentences.due("toString", DbFader.class.getMethod("toString").getDeclaringClass(), Object.class);
            Sentences.due("equals", DbFader.class.getMethod("equals", Object.class).getDeclaringClass(), Object.class);
            Sentences.due("hashCode", DbFader.class.getMethod("hashCode").getDeclaringClass(), Object.class);
        } catch (NoSuchMethodException missing) {
            throw new IllegalStateException(missing);
        }
    }
}
