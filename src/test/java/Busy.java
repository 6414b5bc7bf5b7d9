import java.util.ArrayList;
import java.util.List;
import java.util.function.Consumer;
import java.util.function.Supplier;

/** An object in the midst of its work, in which every change can be seen, and the ways to look for one. */
final class Busy {
    private static final int[] NO_ARGUMENTS = {};

    private Busy() {
    }

    /**
     * 6 JOINTS of which 4 TURN (3 has no ENDS), 3 BEAMS, 2 LOADS, 2 STEPS, IMAGE 0, SHEETS of all lanes and one that
     * is nothing, FAULT 1 of a text, CAST of a read, 14 bytes on THE TAPE.
     */
    static Run run() {
        Run r = Run.told("turn 64;turn-30;hold 7;turn 5;turn 0;hold 0;"
            + "beam 0 1 12 1;beam 1 2 4 3;beam 4 1 6 2;all 0 1;point 1 50 3;");
        r.due(0, "keep", 0).due(1, "couple", 0, 65);
        sheet(r, 0, 0, 0, 11, 1, -12);
        sheet(r, 1, 1, 2, 700, 4, -800);
        sheet(r, 2, 2, 5, 9999, 0, -9999, 6, 1, 0, 10000);
        r.due(0, "read", 0, 1, 0, 1).due(3, "torn");
        r.feed("@").due(-10, "text").due(1, "fault");
        r.due(1, "step", 0).due(2, "step", 1);
        return r.feed("hold 3;turn-4;");
    }

    static void sheet(Run r, int k, int lane, int... cells) {
        r.due(1, "sheet", k, lane, cells.length);
        for (int i = 0; i < cells.length; i++) {
            r.due(1, "lay", k, i, cells[i]);
        }
    }

    /** The call is refused with an answer, and nothing that can be asked differs from where it was not made. */
    static void refuses(Supplier<Run> made, int want, String name, int... args) {
        made.get().due(want, name, args);
        same(Run.written(name, args), made, r -> r.ask(name, args), r -> { });
    }

    static void refuses(int want, String name, int... args) {
        refuses(Busy::run, want, name, args);
    }

    /** What one way leaves behind is what the other leaves, as far as it can be asked. */
    static void same(String what, Supplier<Run> made, Consumer<Run> one, Consumer<Run> other) {
        List<Consumer<Asked>> looks = List.of(Busy::frame, Busy::beams, Busy::moments, Busy::cells,
            a -> image(a, 0), a -> image(a, 1), Busy::told);
        for (int i = 0; i < looks.size(); i++) {
            Asked first = new Asked(made.get());
            Asked second = new Asked(made.get());
            one.accept(first.run);
            other.accept(second.run);
            looks.get(i).accept(first);
            looks.get(i).accept(second);
            for (int n = 0; n < first.rows.size() && n < second.rows.size(); n++) {
                Check.that(what + " left " + first.rows.get(n) + ", due is " + second.rows.get(n),
                    first.rows.get(n).equals(second.rows.get(n)));
            }
        }
    }

    /** What an object answers, row by row. */
    private static final class Asked {
        final Run run;
        final List<String> rows = new ArrayList<>();

        Asked(Run run) {
            this.run = run;
        }

        void ask(String name, int... args) {
            rows.add(Run.written(name, args) + " = " + run.ask(name, args));
        }

        void askEach(String name, int most) {
            for (int i = 0; i < most; i++) {
                ask(name, i);
            }
        }

        void askEach(String name, int most, int whats) {
            for (int i = 0; i < most; i++) {
                for (int what = 0; what < whats; what++) {
                    ask(name, i, what);
                }
            }
        }
    }

    private static void frame(Asked a) {
        a.ask("fault", NO_ARGUMENTS);
        a.ask("torn", NO_ARGUMENTS);
        a.askEach("count", 4);
        a.askEach("rule", 8);
        a.askEach("joint", 6, 5);
        a.askEach("out", 6, 2);
        a.askEach("rank", 6);
        a.askEach("next", 2);
    }

    private static void beams(Asked a) {
        a.askEach("beam", 10, 6);
        a.askEach("load", 8, 4);
        a.askEach("at", 6, 4);
    }

    private static void moments(Asked a) {
        a.askEach("moment", 20, 4);
        a.askEach("share", 20, 2);
        a.ask("begin", NO_ARGUMENTS);
    }

    private static void cells(Asked a) {
        for (int k = 0; k < 4; k++) {
            for (int lane = 0; lane < 3; lane++) {
                for (int f = 0; f < 4; f += 2) {
                    a.ask("read", k, lane, f, 1);
                    a.ask("torn", NO_ARGUMENTS);
                    a.askEach("out", 6, 1);
                }
            }
            a.ask("lay", k, 3, 0);
            a.ask("lay", k, 4, 0);
            a.ask("lay", k, 8, 0);
        }
        a.ask("read", 2, 2, 4, 1);
        a.ask("read", 2, 2, 6, 1);
    }

    private static void image(Asked a, int k) {
        a.ask("back", k);
        frame(a);
        a.askEach("beam", 10, 6);
        a.askEach("load", 8, 4);
    }

    private static void told(Asked a) {
        a.ask("text", NO_ARGUMENTS);
        frame(a);
    }
}
