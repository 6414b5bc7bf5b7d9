import java.lang.reflect.Array;
import java.lang.reflect.Field;
import java.lang.reflect.Modifier;
import java.util.IdentityHashMap;
import java.util.Map;

/** All calls live in one room: an object is small, and no call makes anything. */
public final class RoomTest {
    private static final String TEXT =
        "hold 0;turn 50;turn -30;turn 3;turn 0;beam 0 1 4 2;beam 1 2 6 3;beam 2 3 3 1;beam 2 4 2 5;point 0 90 1;all 1 7;";

    private static long objects;
    private static long elements;

    public static void main(String[] args) throws Exception {
        JointMoments x = new JointMoments();
        measure(x);
        System.out.println("an object: " + objects + " objects, " + elements + " fields and elements");
        Check.that("objects of one", objects <= 80);
        Check.that("elements of one", elements <= 1200);
        for (int n = 0; n < 50; n++) {
            everyCall(x);
        }
        com.sun.management.ThreadMXBean threads =
            (com.sun.management.ThreadMXBean) java.lang.management.ManagementFactory.getThreadMXBean();
        long before = threads.getCurrentThreadAllocatedBytes();
        for (int n = 0; n < 200; n++) {
            everyCall(x);
        }
        long made = threads.getCurrentThreadAllocatedBytes() - before;
        Check.that("nothing is made by calls, but " + made + " bytes were", made < 20000);
        Check.finish();
    }

    private static void everyCall(JointMoments x) {
        for (int i = 0; i < TEXT.length(); i++) {
            x.feed(TEXT.charAt(i));
        }
        x.end(x.count(1));
        x.text();
        x.fault();
        for (int what = -1; what < 9; what++) {
            x.rule(what);
            x.joint(1, what);
            x.out(1, what);
            x.at(2, what);
            x.beam(1, what);
            x.load(0, what);
            x.moment(3, what);
            x.share(3, what);
            x.rank(what);
            x.next(what);
            x.count(what);
        }
        x.step(1);
        x.sweep(0, 20);
        x.sweep(1, 200);
        x.begin();
        x.keep(0);
        x.couple(1, 5);
        x.hold(0, 1);
        x.stiffen(0, 9);
        x.put(0, 9, 1);
        x.lift(0);
        x.fall(5, 8);
        x.back(0);
        x.sheet(0, 1, 40);
        x.lay(0, 1, 3);
        x.read(0, 1, 0, 20);
        x.torn();
    }

    private static void measure(Object root) throws Exception {
        look(root, new IdentityHashMap<>());
    }

    private static void look(Object o, Map<Object, Boolean> seen) throws Exception {
        if (o == null || seen.put(o, true) != null) {
            return;
        }
        objects++;
        if (o.getClass().isArray()) {
            elements += Array.getLength(o);
            for (int i = 0; i < Array.getLength(o) && !o.getClass().getComponentType().isPrimitive(); i++) {
                look(Array.get(o, i), seen);
            }
            return;
        }
        for (Field f : o.getClass().getDeclaredFields()) {
            if (Modifier.isStatic(f.getModifiers())) {
                continue;
            }
            elements++;
            f.setAccessible(true);
            if (!f.getType().isPrimitive()) {
                look(f.get(o), seen);
            }
        }
    }
}
