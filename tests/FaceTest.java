import java.lang.reflect.Constructor;
import java.lang.reflect.Field;
import java.lang.reflect.Method;
import java.lang.reflect.Modifier;
import java.util.ArrayList;
import java.util.Collections;
import java.util.List;

/** The class's face, whole and nothing beside it; that wrong arguments throw nothing; what calls make. */
public final class FaceTest {
    private static final String[] FACE = {"feed IIIII", "text I", "fault I", "named II", "event IIIIII", "old IIIII", "revoke II", "of II",
        "field IIZ", "account II", "at III", "known III", "cost I", "costAt I", "snapshot I", "inSnapshot III", "bestPlace I", "aside I",
        "blame I", "without II", "firstBelow I", "peak II", "touches I", "ifPlain II", "resnap II", "see II", "rewind I", "tally II",
        "sum II", "chance III", "undo ", "keep ", "back ", "count I"};
    private static final int[] EDGES = {Integer.MIN_VALUE, Integer.MIN_VALUE + 1, -1000000, -3, -2, -1, 0, 1, 2, 3, 7, 8, 20, 60, 61, 119, 120, 121, 999,
        1000, 9999, 10000, 99999, 100000, 1000000, Integer.MAX_VALUE - 1, Integer.MAX_VALUE};

    private FaceTest() {
    }

    private static void face() {
        List<String> due = new ArrayList<>(List.of(FACE));
        List<String> got = new ArrayList<>();
        List<String> hidden = new ArrayList<>();
        for (Method m : EventLedger.class.getDeclaredMethods()) {
            if (m.isSynthetic()) {
                continue;
            }
            if (!Modifier.isPrivate(m.getModifiers())) {
                StringBuilder s = new StringBuilder(m.getName()).append(" ");
                for (Class<?> p : m.getParameterTypes()) {
                    s.append(p == int.class ? "I" : p == boolean.class ? "Z" : "?");
                }
                got.add(s.toString());
                Check.isTrue(m + " is public", Modifier.isPublic(m.getModifiers()) && !Modifier.isStatic(m.getModifiers()));
                Check.isTrue(m + " answers an int", m.getReturnType() == int.class);
            } else {
                hidden.add(m.getName());
            }
        }
        Collections.sort(due);
        Collections.sort(got);
        Check.isTrue("the face's methods are " + got, due.equals(got));
        for (String s : due) {
            Check.isTrue("no private method is named as " + s, !hidden.contains(s.substring(0, s.indexOf(' '))));
        }
        for (Field f : EventLedger.class.getDeclaredFields()) {
            Check.isTrue(f + " is hidden", f.getName().equals("NONE") || Modifier.isPrivate(f.getModifiers()));
        }
        Constructor<?>[] made = EventLedger.class.getDeclaredConstructors();
        Check.isTrue("one constructor", made.length == 1 && Modifier.isPublic(made[0].getModifiers()) && made[0].getParameterCount() == 0);
        Check.isTrue("public and final", Modifier.isPublic(EventLedger.class.getModifiers()) && Modifier.isFinal(EventLedger.class.getModifiers()));
    }

    private static Object[] arguments(Method m, int first, int turn) {
        Class<?>[] types = m.getParameterTypes();
        Object[] values = new Object[types.length];
        for (int i = 0; i < types.length; i++) {
            int edge = EDGES[(first + i * turn) % EDGES.length];
            values[i] = types[i] == boolean.class ? (Object) (edge % 2 == 0) : (Object) edge;
        }
        return values;
    }

    /** Every call with edges of all kinds, in every order of a few steps: only of() throws, what it says. */
    private static void edges(EventLedger x) throws Exception {
        for (int turn = 0; turn < EDGES.length; turn++) {
            for (Method m : EventLedger.class.getDeclaredMethods()) {
                if (!Modifier.isPublic(m.getModifiers())) {
                    continue;
                }
                for (int first = 0; first < EDGES.length; first++) {
                    Object[] values = arguments(m, first, turn);
                    boolean fine = true;
                    try {
                        m.invoke(x, values);
                    } catch (java.lang.reflect.InvocationTargetException e) {
                        Class<?> thrown = e.getCause().getClass();
                        fine = m.getName().equals("of") && (thrown == IndexOutOfBoundsException.class || thrown == java.util.NoSuchElementException.class);
                    }
                    if (!fine) {
                        Check.isTrue(m + " of " + java.util.Arrays.toString(values) + " throws nothing", false);
                    }
                }
            }
        }
        Check.isTrue("edges end", true);
    }

    /** The dearest calls make nothing: what is made is made with the object. */
    private static void room() {
        EventLedger x = Check.told("account a;account b;tally t put 1;snap 2 6;open a 0 1 0;open b 0 1 0;");
        for (int i = 0; i < 60; i++) {
            x.old(1 + i % 2, i % 2, 0, 0, i);
        }
        com.sun.management.ThreadMXBean threads = (com.sun.management.ThreadMXBean) java.lang.management.ManagementFactory.getThreadMXBean();
        long ahead = threads.getCurrentThreadAllocatedBytes();
        for (int i = 0; i < 100; i++) {
            x.event(1, 0, 0, 0, 1, 0);
            x.see(0, 3);
            x.blame(i);
            x.touches(i);
            x.chance(i, 20, 0);
            x.bestPlace(0);
            x.ifPlain(1, 1);
            x.keep();
            x.revoke(i, 0);
            x.undo();
            x.resnap(2, 3);
            x.back();
            x.feed(i, i, i, i, i);
            x.text(20);
        }
        long made = threads.getCurrentThreadAllocatedBytes() - ahead;
        Check.isTrue("1400 calls made " + made + " bytes", made < 100000);
        ahead = threads.getCurrentThreadAllocatedBytes();
        EventLedger y = new EventLedger();
        made = threads.getCurrentThreadAllocatedBytes() - ahead;
        Check.isTrue("an object takes " + made + " bytes", made < 100000 && y.count(0) == 0);
    }

    public static void main(String[] args) throws Exception {
        face();
        edges(new EventLedger());
        edges(Check.told("account a;account b;tally t put 1;snap 2 6;lift put 1 mul 1 999;open a 0 1 0;put a 1 1 99999;open b 2 1 3;put b 3 3 5 1 1;void 3 5;"));
        edges(Check.told("account a;tally t put 1;snap 2 6;"));
        room();
        Check.end();
    }
}
