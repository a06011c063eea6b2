import java.lang.management.ManagementFactory;
import java.lang.reflect.Constructor;
import java.lang.reflect.Field;
import java.lang.reflect.Method;
import java.lang.reflect.Modifier;
import java.util.HashSet;
import java.util.Map;
import java.util.Set;
import java.util.TreeMap;
import java.util.TreeSet;

/** The face is the document's and no more, and calls make no objects. */
public final class FrogsChangeSidesFaceAndRoom {
    private static final Set<String> FACE = Set.of("long letters:int", ":blank:int", ":fault:int", ":brook:int",
        "int on:int", "int frog:int", "int,int about:int", "int,int as:int", "int,int may:int", ":moves:int",
        "int,int move:int", ":back:int", "int fewest:int", ":ways:int", ":wrong:int", ":ends:int", ":soon:int",
        ":comes:int", "int more:int", "int off:int", "int wins:int", "int,int by:int", "int,int,int play:int",
        ":image:int", ":restore:int", "int count:int", ":digest:long");
    private static final Map<String, Integer> CONSTANTS =
        Map.of("NONE", -1, "UNKNOWN", -101, "OUTSIDE", -102, "STATE", -103, "FULL", -104);
    private static final int ROUNDS = 200;
    private static int wrong = 0;

    public static void main(String[] args) throws Exception {
        face();
        room();
        System.out.println(wrong == 0 ? "face and room are as due" : wrong + " faults");
        if (wrong != 0) {
            System.exit(1);
        }
    }

    private static void hold(boolean holds, String what) {
        if (!holds) {
            wrong++;
            System.out.println("does not hold: " + what);
        }
    }

    private static void face() throws Exception {
        Class<?> c = FrogsChangeSides.class;
        hold(Modifier.isPublic(c.getModifiers()) && Modifier.isFinal(c.getModifiers()), "public final class");
        Set<String> found = new TreeSet<>();
        Set<String> names = new HashSet<>();
        for (Method m : c.getDeclaredMethods()) {
            if (Modifier.isPrivate(m.getModifiers())) {
                continue;
            }
            StringBuilder takes = new StringBuilder();
            for (Class<?> p : m.getParameterTypes()) {
                takes.append(takes.length() == 0 ? "" : ",").append(p);
            }
            takes.append(takes.length() == 0 ? ":" : " ");
            found.add(takes + m.getName() + ":" + m.getReturnType());
            names.add(m.getName());
            hold(Modifier.isPublic(m.getModifiers()) && !Modifier.isStatic(m.getModifiers()), "public " + m);
        }
        hold(found.equals(FACE), "the methods of the face: " + found);
        Map<String, Integer> constants = new TreeMap<>();
        for (Field f : c.getDeclaredFields()) {
            if (!Modifier.isPrivate(f.getModifiers())) {
                int as = f.getModifiers();
                hold(Modifier.isPublic(as) && Modifier.isStatic(as) && Modifier.isFinal(as), "public static final " + f);
                constants.put(f.getName(), f.getType() == int.class ? f.getInt(null) : 0);
            }
        }
        hold(constants.equals(CONSTANTS), "the constants of the face: " + constants);
        Constructor<?>[] made = c.getDeclaredConstructors();
        hold(made.length == 1 && made[0].getParameterCount() == 0 && Modifier.isPublic(made[0].getModifiers()), "constructor");
        namesInside(c, names);
    }

    private static void namesInside(Class<?> c, Set<String> names) {
        Set<Class<?>> all = new HashSet<>(Set.of(c.getDeclaredClasses()));
        hold(all.size() <= 11, "at most twelve classes");
        for (Class<?> inner : all) {
            hold(Modifier.isStatic(inner.getModifiers()), "static " + inner);
            for (Method m : inner.getDeclaredMethods()) {
                hold(!names.contains(m.getName()), "a name of the face: " + m);
                hold(m.getParameterCount() <= 7, "at most seven parameters: " + m);
            }
        }
        for (Method m : c.getDeclaredMethods()) {
            hold(!Modifier.isPrivate(m.getModifiers()) || !names.contains(m.getName()), "a name of the face: " + m);
        }
    }

    /** All calls of a run share one room, so only the constructor may make objects, and few. */
    private static void room() {
        com.sun.management.ThreadMXBean bean = (com.sun.management.ThreadMXBean) ManagementFactory.getThreadMXBean();
        long id = Thread.currentThread().getId();
        everyCall(new FrogsChangeSides());
        bean.getThreadAllocatedBytes(id);
        long before = bean.getThreadAllocatedBytes(id);
        FrogsChangeSides x = new FrogsChangeSides();
        long made = bean.getThreadAllocatedBytes(id) - before;
        hold(made < 50_000, "an object takes " + made + " bytes");
        before = bean.getThreadAllocatedBytes(id);
        for (int i = 0; i < ROUNDS; i++) {
            everyCall(x);
        }
        long more = bean.getThreadAllocatedBytes(id) - before;
        hold(more < 16 * ROUNDS, "the calls took " + more + " bytes");
    }

    private static void everyCall(FrogsChangeSides x) {
        x.letters(0x2E3C3C3E3E67L << 8 | '.');
        x.letters(0x613BL);
        x.fault();
        x.brook();
        x.letters(0x2E3C3C3E3E67L << 8 | '.');
        x.on(1);
        x.frog(1);
        x.about(0, 2);
        x.as(0, 1);
        x.may(0, 1);
        x.moves();
        x.image();
        x.move(5, 6);
        x.move(4, 6);
        x.move(1, 0);
        x.back();
        x.fewest(1);
        x.ways();
        x.wrong();
        x.ends();
        x.soon();
        x.comes();
        x.more(0);
        x.off(0);
        x.wins(0);
        x.by(1, 0);
        x.play(60, 7, 1);
        x.restore();
        x.count(0);
        x.digest();
        x.blank();
    }
}
