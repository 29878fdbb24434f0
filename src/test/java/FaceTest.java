import java.lang.reflect.Constructor;
import java.lang.reflect.Field;
import java.lang.reflect.Method;
import java.lang.reflect.Modifier;
import java.util.ArrayList;
import java.util.Arrays;
import java.util.List;
import java.util.TreeSet;

/** The public face, by the class itself, and that no call makes an object. */
public final class FaceTest {
    private static final String[] FACE = {
        "int row(int,int)", "int lay(int,int,int)", "int at(int,int)", "int tear(int)", "int copy(int,int,int,int,int)",
        "int mean(int)", "int text(int,int)", "int put(int,int,int)", "int fault(int)", "int line(int)",
        "int person(int,int)", "int mark(int,int)", "int price(int,int)", "int night(int)", "int trade(int,int)",
        "int undo(int)", "int keep(int)", "int on(int)", "int tonight()", "int turn(int,int)", "int after(int)",
        "int soonest(int,int)", "int rows(int,int)", "int odds(int,int,int)", "int mid(int,int)",
        "int push(int,int,int)", "int pair(int,int,int)", "int cheap(int,int)", "int game(int,int)",
        "int kinds(int,int,int)", "int clear(int)", "int lies(int)", "int merge(int,int)", "int merged(int,int,int)",
        "int message(int)", "int lots(int,int)", "int asked()", "long upper()", "long lower()", "int count(int)",
        "int finding()", "int findings(int)", "long digest()"};
    private static final Due due = new Due();

    public static void main(String[] args) throws Exception {
        face();
        constants();
        room();
        due.end("FaceTest");
    }

    private static void yes(String what, boolean is) {
        due.is(what, is ? 1 : 0, 1);
    }

    private static void face() {
        TreeSet<String> open = new TreeSet<>();
        TreeSet<String> names = new TreeSet<>();
        for (Method m : MoonLine.class.getDeclaredMethods()) {
            if (!Modifier.isPrivate(m.getModifiers())) {
                List<String> types = new ArrayList<>();
                for (Class<?> type : m.getParameterTypes()) {
                    types.add(type.getName());
                }
                open.add(m.getReturnType().getName() + " " + m.getName() + "(" + String.join(",", types) + ")");
                names.add(m.getName());
                yes(m + " is public", Modifier.isPublic(m.getModifiers()) && !Modifier.isStatic(m.getModifiers()));
            }
        }
        TreeSet<String> want = new TreeSet<>(Arrays.asList(FACE));
        yes("the face is as told, but it is " + open, open.equals(want));
        for (Class<?> inner : allClasses()) {
            for (Method m : inner.getDeclaredMethods()) {
                boolean clash = names.contains(m.getName()) && !Modifier.isPublic(m.getModifiers());
                yes(m + " bears no public name", !clash);
            }
        }
        Constructor<?>[] made = MoonLine.class.getDeclaredConstructors();
        yes("one public constructor", made.length == 1 && Modifier.isPublic(made[0].getModifiers()));
        yes("a final class", Modifier.isFinal(MoonLine.class.getModifiers()));
    }

    private static List<Class<?>> allClasses() {
        List<Class<?>> all = new ArrayList<>(Arrays.asList(MoonLine.class.getDeclaredClasses()));
        all.add(MoonLine.class);
        return all;
    }

    private static void constants() throws Exception {
        TreeSet<String> open = new TreeSet<>();
        for (Field f : MoonLine.class.getDeclaredFields()) {
            if (!Modifier.isPrivate(f.getModifiers())) {
                yes(f + " is public, static, final", Modifier.toString(f.getModifiers()).equals("public static final"));
                open.add(f.getName() + f.getInt(null));
            }
        }
        TreeSet<String> want = new TreeSet<>(List.of("BAD-1", "FULL-2", "FINDING-3", "STATE-4", "SPENT-6", "NONE-9"));
        yes("the constants are as told, but they are " + open, open.equals(want));
    }

    /** What the dearest calls make: nothing, so that a long run stays in its room. */
    private static void room() {
        com.sun.management.ThreadMXBean bean =
            (com.sun.management.ThreadMXBean) java.lang.management.ManagementFactory.getThreadMXBean();
        MoonLine x = Due.line("d90 p92s93r94l95s96w97");
        Due.fill(x, 0, 1, 0, 1, 1);
        Due.fill(x, 1, -9, -9, -9, -9);
        Due.fill(x, 2, 0, 1, 1, 2, 3, 4);
        long used = 0;
        for (int round = 0; round < 3; round++) {
            long id = Thread.currentThread().getId();
            long before = bean.getThreadAllocatedBytes(id);
            for (int k = 0; k < 20; k++) {
                dearCalls(x);
            }
            used = bean.getThreadAllocatedBytes(id) - before;
        }
        yes("calls make nothing, but they made " + used + " bytes", used < 4096);
    }

    private static void dearCalls(MoonLine x) {
        x.row(3, 40);
        x.line(0);
        x.lots(20, 5);
        x.undo(3);
        x.keep(1);
        x.on(1);
        x.tonight();
        x.turn(6, 0);
        x.after(0);
        x.soonest(6, 10);
        x.rows(6, 10);
        x.odds(6, 10, 5);
        x.mid(10, 5);
        x.push(6, 7, 4);
        x.pair(6, 5, 7);
        x.cheap(6, 7);
        x.game(6, 4);
        x.kinds(6, 0, 1);
        x.clear(1);
        x.lies(2);
        x.merge(20, 20);
        x.merged(0, 1, 3);
        x.digest();
    }
}
