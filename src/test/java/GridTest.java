import java.util.ArrayList;
import java.util.List;
import java.util.function.Supplier;

/**
 * All promises at all their bounds: every call with every mixture of numbers just within and just beyond each
 * bound that the document names, in several states, answered by the class and by the plain second writing alike.
 */
public final class GridTest {
    private static final int MIN = Integer.MIN_VALUE, MAX = Integer.MAX_VALUE;
    private static final int[] BOUNDS = {
        MIN, MIN + 1, -10001, -10000, -9999, -9998, -2, -1, 0, 1, 2, 3, 4, 5, 6, 7, 8, 9, 10, 11, 12, 13, 14, 18, 19, 20,
        21, 22, 38, 39, 40, 41, 98, 99, 100, 127, 128, 199, 200, 201, 256, 319, 320, 321, 998, 999, 1000, 9998, 9999,
        10000, 10001, 65536, MAX - 1, MAX,
    };
    private static final int[] FEW = {MIN, -1, 0, 1, 2, 3, 4, 5, 6, 8, 10, 11, 12, 39, 40, 41, 99, 100, 999, 1000, MAX};
    private static final int[] FEWEST = {MIN, -1, 0, 1, 2, 3, 4, 5, 19, 20, 21, MAX};
    private static final String[] NAMES = {
        "feed", "end", "fault", "rule", "joint", "out", "at", "beam", "load", "moment", "share", "rank", "next", "step",
        "sweep", "begin", "couple", "hold", "stiffen", "put", "lift", "fall", "keep", "back", "sheet", "lay", "read",
        "torn", "count", "text",
    };

    /** The class and the plain writing, side by side. */
    private static final class Pair {
        final Run run = new Run();
        final Plain plain = new Plain();

        void call(String name, int... args) {
            Check.due(Run.written(name, args), run.ask(name, args), plain.call(name, args));
        }

        Pair feed(String letters) {
            for (int i = 0; i < letters.length(); i++) {
                call("feed", letters.charAt(i));
            }
            return this;
        }

        Pair told(String text) {
            feed(text).call("text");
            return this;
        }

        boolean hasRoom(int calls) {
            return run.calls() + calls < Run.MOST_CALLS;
        }
    }

    public static void main(String[] args) {
        List<Supplier<Pair>> states = List.of(Pair::new, GridTest::full, GridTest::small, GridTest::fullTape);
        for (int i = 0; i < states.size(); i++) {
            for (String name : NAMES) {
                Check.about("state " + i);
                grid(states.get(i), name);
            }
        }
        Check.about("");
        Check.finish();
    }

    /** All that there may be, and a STEP. */
    private static Pair full() {
        Pair p = new Pair().told("turn-9;hold 8;turn 7;hold 6;turn-5;turn 4;" + "beam0 1 12 1;beam2 0 4 3;".repeat(3)
            + "beam4 2 1 9;beam5 2 2 8;beam4 5 3 7;beam1 3 6 6;" + "all0 9;point1 7 3;".repeat(4));
        p.call("keep", 1);
        p.call("sheet", 0, 1, 40);
        p.call("lay", 0, 3, 9);
        p.call("step", 0);
        return p;
    }

    private static Pair small() {
        Pair p = new Pair().told("turn 5;hold 0;hold 3;beam 0 1 12 2;point 0 9 11;");
        p.call("keep", 0);
        p.call("sheet", 1, 0, 5);
        p.call("lay", 1, 0, 1);
        p.call("lay", 1, 1, 77);
        p.call("lay", 1, 3, 200);
        p.call("sheet", 2, 2, 0);
        return p;
    }

    private static Pair fullTape() {
        return new Pair().feed("turn 5;" + " ".repeat(313));
    }

    private static void grid(Supplier<Pair> state, String name) {
        int parameters = Run.parameters(name);
        int[] values = parameters < 3 ? BOUNDS : parameters == 3 ? FEW : FEWEST;
        List<int[]> rows = new ArrayList<>();
        rows.add(new int[0]);
        for (int n = 0; n < parameters; n++) {
            List<int[]> longer = new ArrayList<>();
            for (int[] row : rows) {
                for (int value : values) {
                    int[] one = java.util.Arrays.copyOf(row, n + 1);
                    one[n] = value;
                    longer.add(one);
                }
            }
            rows = longer;
        }
        // A call that is taken changes both alike; an object is made anew when its calls are used up.
        Pair p = state.get();
        for (int[] row : rows) {
            if (!p.hasRoom(40)) {
                look(p);
                p = state.get();
            }
            p.call(name, row);
        }
        look(p);
    }

    private static void look(Pair p) {
        for (int what = 0; what < 8; what++) {
            p.call("rule", what);
        }
        for (int j = 0; j < 6; j++) {
            p.call("out", j, 1);
        }
        for (int what = 0; what < 4; what++) {
            p.call("count", what);
        }
        p.call("torn");
        p.call("fault");
        p.call("back", 0);
        p.call("back", 1);
    }
}
