/** Promises 16 to 18, and the Terms about a STEP. */
final class StepEdges {
    private static final int BAD = Run.BAD, STATE = Run.STATE, NONE = Run.NONE, MIN = Run.MIN, MAX = Run.MAX;
    /** Three ENDS at JOINT 1, all of K 1: 0, 3 and 4. */
    private static final String STAR = "hold 0;turn 0;hold 0;hold 0;beam 1 0 12 1;beam 2 1 12 1;beam 1 3 12 1;";

    private StepEdges() {
    }

    static void all() {
        shared();
        leftOver();
        carried();
        step();
        sweep();
        begin();
    }

    private static void shared() {
        Edge.terms("STEP at a JOINT that TURNS and has ENDS: its OUT, turned about (U), is SHARED:", () -> {
            Run.told(STAR).due(1, "couple", 1, 30).due(1, "step", 1).moments(-10, -5, -5, -10, -10, -5)
                .due(0, "out", 1, 1).due(30, "out", 1, 0).due(-5, "out", 0, 1).due(-5, "out", 2, 1)
                .due(-5, "out", 3, 1);
            Run.told(STAR).due(1, "couple", 1, -30).due(1, "step", 1).moments(10, 5, 5, 10, 10, 5).due(0, "out", 1, 1)
                .due(2, "step", 1).moments(10, 5, 5, 10, 10, 5);
        });
        Edge.terms("each END at it gets U times its K, by all K at it summed, cut to a whole number (towards 0);", () -> {
            // K 3, 1, 1 and U 9: 5.4, 1.8, 1.8 are cut to 5, 1, 1; what is left goes to the first two.
            Run.told(STAR).due(1, "stiffen", 0, 3).due(1, "couple", 1, -9).row("share", 0, 6, 3).row("share", 3, 2, 1)
                .row("share", 4, 1, 0).due(1, "couple", 1, 9).row("share", 0, -6, -3).row("share", 3, -2, -1)
                .row("share", 4, -1, 0);
            // Numbers beyond 31 bits on the way: some 1.4 millions times 120 times ten BEAMS.
            Run.told("turn 0;hold 0;beam 0 1 12 1;" + "beam 0 1 1 10;".repeat(9) + "point 0 999 4;".repeat(8))
                .due(-1420800, "out", 0, 1).due(1314, "share", 0, 0).due(157721, "share", 2, 0)
                .due(157720, "share", 18, 0).due(1, "step", 0).due(0, "out", 0, 1);
        });
    }

    private static void leftOver() {
        Edge.terms("what is left of U (fewer than there are ENDS) goes by ones, of its sign, to ENDS of greatest K first, "
            + "of several the first.", () -> {
            Run.told(STAR).due(1, "couple", 1, -1).due(1, "step", 1).moments(1, 0, 0, 0, 0, 0);
            Run.told(STAR).due(1, "couple", 1, 1).due(1, "step", 1).moments(-1, 0, 0, 0, 0, 0);
            Run.told(STAR).due(1, "couple", 1, -2).due(1, "step", 1).moments(1, 0, 0, 1, 0, 0);
            Run.told(STAR).due(1, "couple", 1, 2).due(1, "step", 1).moments(-1, 0, 0, -1, 0, 0);
            Run.told(STAR).due(1, "couple", 1, -3).due(1, "step", 1).moments(1, 0, 0, 1, 1, 0);
            Run.told(STAR).due(1, "stiffen", 2, 2).due(1, "couple", 1, -1).due(1, "step", 1).moments(0, 0, 0, 0, 1, 0);
            Run.told(STAR).due(1, "stiffen", 2, 2).due(1, "couple", 1, 1).due(1, "step", 1).moments(0, 0, 0, 0, -1, 0);
            // K 1, 2, 1 and U 7: 1.75, 3.5, 1.75; the two that are left go to K 2, then to the first of K 1.
            Run.told(STAR).due(1, "stiffen", 1, 2).due(1, "couple", 1, -7).due(1, "step", 1).moments(2, 1, 2, 4, 1, 0);
            Run.told(STAR).due(1, "stiffen", 1, 2).due(1, "couple", 1, 7).due(1, "step", 1)
                .moments(-2, -1, -2, -4, -1, 0);
            // Ten ENDS, nine ones.
            Run r = Run.told("turn-9999;hold 0;" + "beam 0 1 12 1;".repeat(10));
            for (int b = 0; b < 10; b++) {
                r.due(b < 9 ? 1000 : 999, "share", 2 * b, 0);
            }
            r.due(1, "step", 0).due(0, "out", 0, 1).due(9 * 500 + 499, "out", 1, 1);
        });
    }

    private static void carried() {
        Edge.terms("Then the other END of each of these BEAMS gets half of what came, cut (towards 0).", () -> {
            String text = "turn 0;turn 0;beam 0 1 12 1;beam 1 0 12 1;";
            Run.told(text).due(1, "couple", 0, -6).due(1, "step", 0).moments(3, 1, 1, 3).due(0, "out", 0, 1)
                .due(2, "out", 1, 1).due(2, "step", 1).moments(3, 0, 0, 3).due(0, "out", 1, 1).due(0, "out", 0, 1);
            Run.told(text).due(1, "couple", 0, 6).due(1, "step", 0).moments(-3, -1, -1, -3).due(-2, "out", 1, 1);
            Run.told(text).due(1, "couple", 0, -2).due(1, "step", 0).moments(1, 0, 0, 1).due(0, "out", 1, 1);
            Run.told(text).due(1, "couple", 0, 2).due(1, "step", 0).moments(-1, 0, 0, -1).due(0, "out", 1, 1);
        });
    }

    private static void step() {
        Edge.promise(16, "A STEP at a JOINT: how many there were.", () ->
            Run.told("turn 64;turn 0;hold 0;beam 0 1 12 1;beam 1 2 12 1;").due(1, "step", 0).due(2, "step", 1)
                .due(3, "step", 1).due(3, "rule", 4).due(2, "joint", 1, 3).due(1, "joint", 0, 3).due(3, "begin")
                .due(1, "step", 1).due(1, "couple", 0, 64).due(1, "step", 0));
        Edge.promise(16, "BAD;", () ->
            Run.told(STAR).due(BAD, "step", -1).due(BAD, "step", 4).due(BAD, "step", MIN).due(BAD, "step", MAX)
                .due(0, "rule", 4));
        Edge.promise(16, "STATE: it is HELD, has no ENDS.", () ->
            Run.told("turn 5;hold 6;turn 7;hold 8;beam 0 1 12 1;").due(STATE, "step", 1).due(STATE, "step", 2)
                .due(STATE, "step", 3).due(0, "rule", 4).due(NONE, "rule", 7).due(0, "joint", 1, 3)
                .due(0, "joint", 2, 3).due(1, "step", 0).due(0, "hold", 0, 1).due(STATE, "step", 0)
                .due(1, "hold", 1, 0).due(1, "step", 1));
    }

    private static void sweep() {
        String text = "turn 10;turn 100;hold 0;beam 0 1 12 1;beam 1 2 12 1;";
        Edge.promise(17, "Till n STEPS (1 to 200) are done or none is LOOSE, a STEP at WORST (way 0), "
            + "at NEXT by turns (1): how many were done.", () -> {
            Run.told(text).due(1, "sweep", 0, 1).due(1, "rule", 7).moments(-25, -50, -50, -25).due(1, "rule", 4);
            Run.told(text).due(1, "sweep", 1, 1).due(0, "rule", 7).moments(-10, -5, 0, 0).due(1, "sweep", 1, 1)
                .due(1, "rule", 7).due(2, "rule", 4);
            // Swept at once or step by step, it is the same, and no STEP is made too many.
            for (int way = 0; way < 2; way++) {
                Run swept = Run.told(text);
                Run stepped = Run.told(text);
                int done = swept.ask("sweep", way, 200);
                int steps = 0;
                for (int j = stepped.ask("next", way); j >= 0; j = stepped.ask("next", way)) {
                    steps++;
                    stepped.due(steps, "step", j);
                }
                Check.due("STEPS of way " + way, done, steps);
                swept.due(done, "rule", 4).due(0, "rule", 5).due(0, "rule", 6).due(0, "sweep", way, 200)
                    .due(0, "sweep", 1 - way, 1).due(done, "rule", 4);
                for (int e = 0; e < 4; e++) {
                    swept.due(stepped.ask("moment", e, 1), "moment", e, 1);
                }
                Run.told(text).due(done - 1, "sweep", way, done - 1).due(1, "rule", 5).due(1, "sweep", way, 200);
                Run.told(text).due(done, "sweep", way, done).due(done, "rule", 4);
            }
            new Run().due(0, "sweep", 0, 1).due(0, "sweep", 1, 200);
        });
        Edge.promise(17, "BAD.", () ->
            Run.told(text).due(BAD, "sweep", -1, 1).due(BAD, "sweep", 2, 1).due(BAD, "sweep", 0, 0)
                .due(BAD, "sweep", 1, 0).due(BAD, "sweep", 0, 201).due(BAD, "sweep", 1, 201).due(BAD, "sweep", 0, -1)
                .due(BAD, "sweep", 0, MIN).due(BAD, "sweep", 0, MAX).due(BAD, "sweep", MIN, 1).due(BAD, "sweep", MAX, 1)
                .due(0, "rule", 4));
    }

    private static void begin() {
        Edge.promise(18, "MOMENTS are FIRST, there were no STEPS: how many there were.", () ->
            Run.told("turn 64;turn 0;beam 0 1 12 1;all 0 1;").due(0, "begin").due(1, "step", 0).due(2, "step", 1)
                .due(3, "step", 0).due(3, "begin").anew().moments(-1200, 1200).due(64 - 1200, "out", 0, 1)
                .due(1200, "out", 1, 1).due(0, "begin").due(2, "sweep", 0, 2).due(2, "begin").due(64, "out", 0, 0));
    }
}
