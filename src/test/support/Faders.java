import java.lang.reflect.Field;
import java.lang.reflect.Modifier;
import java.util.Arrays;
import java.util.stream.IntStream;

/** Faders in a wanted state, what is due of them, and a look at their inside. */
final class Faders {
    static final char[] TABLE = {
        65535, 61858, 58386, 55109, 52016, 49097, 46341, 43740, 41285, 38968, 36781, 34716
    };

    /** Small distances, and those around which a sum narrowed to byte, short or int would wrap. */
    static final int[] DISTANCES = distances();

    private Faders() {
    }

    static DbFader atStep(int step) {
        DbFader x = new DbFader();
        x.nudge(step);
        return x;
    }

    static DbFader fromMuteDownTo(int step) {
        DbFader x = new DbFader();
        x.mute();
        x.nudge(step - 127);
        return x;
    }

    /** Floor division by a power of two, so that it does not lean on the shift that it checks. */
    static long dueAnswer(int step, int s) {
        if (step == 127) {
            return 0;
        }
        long divisor = 65536;
        int index = step;
        while (index >= 12) {
            divisor *= 2;
            index -= 12;
        }
        return Math.floorDiv((long) s * TABLE[index], divisor);
    }

    /** Compares before it adds, so that it needs no sum wider than a byte. */
    static int dueStep(int step, int d) {
        if (d < -step) {
            return 0;
        }
        return d > 127 - step ? 127 : step + d;
    }

    static char[] table(DbFader x) {
        try {
            Field man = DbFader.class.getDeclaredField("MAN");
            man.setAccessible(true);
            return (char[]) man.get(x);
        } catch (ReflectiveOperationException missing) {
            throw new IllegalStateException(missing);
        }
    }

    /** All that a fader holds, in words: two looks are equal if nothing has changed between them. */
    static String inside(DbFader x) {
        StringBuilder held = new StringBuilder();
        for (Field field : DbFader.class.getDeclaredFields()) {
            if (Modifier.isStatic(field.getModifiers())) {
                continue;
            }
            held.append(field.getName()).append('=').append(words(field, x)).append(' ');
        }
        return held.toString();
    }

    private static String words(Field field, DbFader x) {
        try {
            field.setAccessible(true);
            return Arrays.deepToString(new Object[] {field.get(x)});
        } catch (IllegalAccessException closed) {
            throw new IllegalStateException(closed);
        }
    }

    private static int[] distances() {
        IntStream.Builder found = IntStream.builder();
        for (int d = -400; d <= 400; d++) {
            found.add(d);
        }
        for (int bit = 9; bit <= 31; bit++) {
            for (int off = -260; off <= 260; off++) {
                found.add((1 << bit) + off);
                found.add(-(1 << bit) + off);
            }
        }
        return found.build().distinct().toArray();
    }
}
