import java.lang.reflect.Constructor;
import java.lang.reflect.Field;
import java.lang.reflect.Method;
import java.lang.reflect.Modifier;
import java.util.Arrays;
import java.util.Set;
import java.util.TreeSet;

/** Promise 1: construction, start state, independence; and the public face as the document gives it. */
public final class Promise1StartTest {
    private static final char[] TABLE = {
        65535, 61858, 58386, 55109, 52016, 49097, 46341, 43740, 41285, 38968, 36781, 34716
    };
    private static int wrong = 0;

    private static void due(String call, Object got, Object want) {
        if (!got.equals(want)) {
            wrong++;
            System.out.println(call + " answered " + got + ", due is " + want);
        }
    }

    public static void main(String[] args) throws Exception {
        startState();
        tableIsFilledAndKept();
        fadersAreIndependent();
        publicFace();
        if (wrong != 0) {
            System.exit(1);
        }
    }

    private static void startState() {
        DbFader x = new DbFader();
        due("new: step()", x.step(), 0);
        for (int s = Short.MIN_VALUE; s <= Short.MAX_VALUE; s++) {
            due("new: apply(" + s + ")", x.apply((short) s), (int) (((long) s * 65535) >> 16));
        }
        due("new: mute()", new DbFader().mute(), 0);
        due("new: nudge(0)", new DbFader().nudge(0), 0);
    }

    private static void tableIsFilledAndKept() throws Exception {
        Field man = DbFader.class.getDeclaredField("MAN");
        man.setAccessible(true);
        DbFader x = new DbFader();
        tableHolds("new", (char[]) man.get(x));
        for (int call = 0; call < 1000; call++) {
            x.apply((short) (call * 37 - 18000));
            x.nudge(call % 2 == 0 ? call : -call / 3);
            x.step();
            if (call % 50 == 0) {
                x.mute();
            }
        }
        x.nudge(Integer.MIN_VALUE);
        x.nudge(Integer.MAX_VALUE);
        tableHolds("after calls", (char[]) man.get(x));
        due("step is a byte", DbFader.class.getDeclaredField("step").getType(), byte.class);
    }

    private static void tableHolds(String when, char[] table) {
        due(when + ": length of MAN", table.length, 12);
        due(when + ": MAN as due", Arrays.equals(table, TABLE), true);
    }

    private static void fadersAreIndependent() {
        DbFader a = new DbFader();
        DbFader b = new DbFader();
        a.nudge(40);
        due("b.step() after a.nudge(40)", b.step(), 0);
        b.mute();
        due("a.step() after b.mute()", a.step(), 40);
        due("new: step() after calls on others", new DbFader().step(), 0);
        due("a.step() after another construction", a.step(), 40);
        due("b.step() after another construction", b.step(), 127);
        due("a.apply(32767)", a.apply((short) 32767), 3250);
        due("b.apply(32767)", b.apply((short) 32767), 0);
    }

    private static void publicFace() {
        Set<String> face = new TreeSet<>();
        due("the class is public and final", DbFader.class.getModifiers(), Modifier.PUBLIC | Modifier.FINAL);
        for (Constructor<?> c : DbFader.class.getDeclaredConstructors()) {
            addUnlessPrivate(face, c.getModifiers(), c.toString());
        }
        for (Method m : DbFader.class.getDeclaredMethods()) {
            addUnlessPrivate(face, m.getModifiers(), m.toString());
        }
        for (Field f : DbFader.class.getDeclaredFields()) {
            addUnlessPrivate(face, f.getModifiers(), f.toString());
        }
        due("members that are not private", face, new TreeSet<>(Set.of(
            "public DbFader()",
            "public int DbFader.apply(short)",
            "public int DbFader.nudge(int)",
            "public int DbFader.mute()",
            "public int DbFader.step()")));
    }

    private static void addUnlessPrivate(Set<String> face, int modifiers, String member) {
        if (!Modifier.isPrivate(modifiers)) {
            face.add(member);
        }
    }
}
