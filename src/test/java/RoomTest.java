import java.lang.reflect.Array;
import java.lang.reflect.Field;
import java.lang.reflect.Modifier;
import java.util.IdentityHashMap;
import java.util.LinkedHashMap;
import java.util.Map;
import java.util.function.ToIntFunction;

/** All 512 calls of an object live in one room: what it is made of, and what its dearest call makes, fit there. */
public final class RoomTest {
    private static final long MOST_OBJECTS = 600000;
    private static final long MOST_ELEMENTS = 7300000;
    private static final int TIMES = 190;
    private static final String TEXT =
        "hold 0;turn 50;turn -30;turn 3;turn 0;beam 0 1 4 2;beam 1 2 6 3;beam 2 3 3 1;beam 2 4 2 5;point 0 90 1;all 1 7;";

    private static long objects;
    private static long elements;

    public static void main(String[] args) throws Exception {
        look(told(), new IdentityHashMap<>());
        System.out.println("an object: " + objects + " objects, " + elements + " fields and elements");
        Check.that("objects of one", objects < MOST_OBJECTS);
        Check.that("elements of one", elements < MOST_ELEMENTS);
        Map<String, ToIntFunction<JointMoments>> calls = calls();
        for (String name : calls.keySet()) {
            made(calls.get(name));
            long bytes = made(calls.get(name)) * Run.MOST_CALLS / TIMES;
            // A field or an element takes a byte at least, an object or array some sixteen.
            Check.that("512 calls of " + name + " make " + bytes + " bytes", bytes < MOST_ELEMENTS);
        }
        Check.finish();
    }

    private static JointMoments told() {
        JointMoments x = new JointMoments();
        for (int i = 0; i < TEXT.length(); i++) {
            x.feed(TEXT.charAt(i));
        }
        x.text();
        x.keep(0);
        x.sheet(0, 1, 40);
        return x;
    }

    private static Map<String, ToIntFunction<JointMoments>> calls() {
        Map<String, ToIntFunction<JointMoments>> calls = new LinkedHashMap<>();
        calls.put("feed", x -> x.feed('t'));
        calls.put("end", x -> x.end(0));
        calls.put("text", x -> x.text());
        calls.put("rule", x -> x.rule(6));
        calls.put("joint", x -> x.joint(1, 4));
        calls.put("out", x -> x.out(1, 1));
        calls.put("at", x -> x.at(1, 1));
        calls.put("beam", x -> x.beam(1, 5));
        calls.put("load", x -> x.load(1, 3));
        calls.put("moment", x -> x.moment(3, 3));
        calls.put("share", x -> x.share(3, 1));
        calls.put("rank", x -> x.rank(3));
        calls.put("next", x -> x.next(1));
        calls.put("step", x -> x.step(1));
        calls.put("sweep", x -> x.begin() + x.sweep(0, 200));
        calls.put("couple", x -> x.couple(1, 9));
        calls.put("hold", x -> x.hold(1, 0));
        calls.put("stiffen", x -> x.stiffen(1, 3));
        calls.put("put", x -> x.lift(0) + x.put(0, 9, 1));
        calls.put("fall", x -> x.back(0) + x.fall(5, 8));
        calls.put("keep", x -> x.keep(1));
        calls.put("sheet", x -> x.sheet(0, 1, 40));
        calls.put("lay", x -> x.lay(0, 39, 1));
        calls.put("read", x -> x.read(0, 1, 0, 20));
        calls.put("count", x -> x.count(3));
        return calls;
    }

    private static long made(ToIntFunction<JointMoments> call) {
        com.sun.management.ThreadMXBean threads =
            (com.sun.management.ThreadMXBean) java.lang.management.ManagementFactory.getThreadMXBean();
        JointMoments x = told();
        long before = threads.getCurrentThreadAllocatedBytes();
        for (int n = 0; n < TIMES; n++) {
            call.applyAsInt(x);
        }
        return threads.getCurrentThreadAllocatedBytes() - before;
    }

    private static void look(Object o, Map<Object, Boolean> seen) throws Exception {
        if (o == null || seen.put(o, true) != null) {
            return;
        }
        objects++;
        if (o.getClass().isArray()) {
            elements += Array.getLength(o);
            for (int i = 0; i < Array.getLength(o) && !o.getClass().getComponentType().isPrimitive(); i++) {
                look(Array.get(o, i), seen);
            }
            return;
        }
        if (o.getClass().getName().startsWith("java.")) {
            return;
        }
        for (Field f : o.getClass().getDeclaredFields()) {
            if (Modifier.isStatic(f.getModifiers())) {
                continue;
            }
            elements++;
            f.setAccessible(true);
            if (!f.getType().isPrimitive()) {
                look(f.get(o), seen);
            }
        }
    }
}
