import java.lang.reflect.InvocationTargetException;
import java.lang.reflect.Method;
import java.lang.reflect.Modifier;
import java.util.Arrays;
import java.util.HashMap;
import java.util.Map;

/** A run of calls on one new object, by name; the document bounds it to 512 calls. */
final class Run {
    static final int BAD = -1, STATE = -2, FULL = -3, NONE = -4, NOTHING = 2000000000;
    static final int MIN = Integer.MIN_VALUE, MAX = Integer.MAX_VALUE;
    static final int MOST_CALLS = 512;
    private static final Map<String, Method> METHODS = methods();

    private final JointMoments x = new JointMoments();
    private int calls;

    private static Map<String, Method> methods() {
        Map<String, Method> found = new HashMap<>();
        for (Method m : JointMoments.class.getDeclaredMethods()) {
            if (Modifier.isPublic(m.getModifiers())) {
                found.put(m.getName(), m);
            }
        }
        return found;
    }

    static int parameters(String name) {
        return METHODS.get(name).getParameterCount();
    }

    int calls() {
        return calls;
    }

    int ask(String name, int... args) {
        calls++;
        if (calls > MOST_CALLS) {
            throw new IllegalStateException("the test makes more than 512 calls");
        }
        try {
            return (Integer) METHODS.get(name).invoke(x, Arrays.stream(args).boxed().toArray());
        } catch (InvocationTargetException e) {
            throw new IllegalStateException(written(name, args) + " threw " + e.getCause(), e.getCause());
        } catch (IllegalAccessException e) {
            throw new IllegalStateException(e);
        }
    }

    static String written(String name, int... args) {
        String list = Arrays.toString(args);
        return name + "(" + list.substring(1, list.length() - 1) + ")";
    }

    Run due(int want, String name, int... args) {
        Check.due(written(name, args), ask(name, args), want);
        return this;
    }

    Run feed(String letters) {
        for (int i = 0; i < letters.length(); i++) {
            ask("feed", letters.charAt(i));
        }
        return this;
    }

    /** A new run whose text is taken; each line ends in a semicolon. */
    static Run told(String text) {
        return new Run().takes(text);
    }

    Run takes(String text) {
        feed(text);
        Check.due("text() of '" + text + "'", ask("text"), (int) text.chars().filter(c -> c == ';').count());
        Check.due("fault() of '" + text + "'", ask("fault"), 0);
        return this;
    }

    Run refuses(String text, int fault, int place) {
        feed(text);
        Check.due("text() of '" + text + "'", ask("text"), -10 - place);
        Check.due("fault() of '" + text + "'", ask("fault"), fault);
        return this;
    }

    /** A text alone on a new object. */
    static void fault(String text, int fault, int place) {
        new Run().refuses(text, fault, place).due(0, "rule", 0).due(0, "count", 1);
    }

    /** The answers of a call of two numbers, the second one being 0, 1 and so on. */
    Run row(String name, int first, int... want) {
        for (int what = 0; what < want.length; what++) {
            due(want[what], name, first, what);
        }
        return this;
    }

    Run moments(int... want) {
        for (int e = 0; e < want.length; e++) {
            due(want[e], "moment", e, 1);
        }
        Check.due("ENDS", 2 * ask("rule", 2), want.length);
        return this;
    }

    /** MOMENTS are FIRST, there were no STEPS. */
    Run anew() {
        due(0, "rule", 4).due(NONE, "rule", 7);
        for (int e = 0; e < 2 * ask("rule", 2); e++) {
            Check.due("MOMENT less FIRST of END " + e, ask("moment", e, 1) - ask("moment", e, 0), 0);
        }
        for (int j = 0; j < ask("rule", 0); j++) {
            due(0, "joint", j, 3);
        }
        return this;
    }
}
