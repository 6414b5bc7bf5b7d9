/** Promises 6 to 11, and the Terms about JOINTS, BEAMS, ENDS, LOADS and FIRST. */
final class FrameEdges {
    private static final int BAD = Run.BAD, FULL = Run.FULL, NONE = Run.NONE;
    private static final int NOTHING = Run.NOTHING, MIN = Run.MIN, MAX = Run.MAX;
    private static final String TWO = "hold 0;hold 0;";
    private static final int[] LENGTHS = {1, 2, 3, 4, 6, 12};

    private FrameEdges() {
    }

    static void all() {
        joints();
        beams();
        loads();
        firsts();
        rule();
        joint();
        out();
        at();
        beam();
        load();
    }

    private static void joints() {
        Edge.terms("JOINTS 0 on (6 at most), by order", () ->
            Run.told("hold 1;turn 2;hold 3;turn 4;turn 5;turn 6;").due(6, "rule", 0).due(1, "out", 0, 0)
                .due(2, "out", 1, 0).due(3, "out", 2, 0).due(4, "out", 3, 0).due(5, "out", 4, 0).due(6, "out", 5, 0)
                .due(NOTHING, "out", 6, 0).due(NOTHING, "out", -1, 0).refuses("hold 0;".repeat(7), 5, 42));
        Edge.terms("each HELD or not (it TURNS; 4 at most do)", () ->
            Run.told("hold 0;turn 0;hold 0;turn 0;turn 0;turn 0;").due(1, "joint", 0, 0).due(0, "joint", 1, 0)
                .due(4, "rule", 1).due(FULL, "hold", 0, 0).due(0, "hold", 1, 1).due(3, "rule", 1).due(1, "hold", 0, 0)
                .due(4, "rule", 1).due(FULL, "hold", 2, 0).refuses("turn 0;".repeat(5), 5, 28));
        Edge.terms("with a COUPLE (-9999 to 9999).", () ->
            Run.told("turn -9999;hold 9999;").due(-9999, "out", 0, 0).due(9999, "out", 1, 0).due(1, "couple", 0, 9999)
                .due(1, "couple", 1, -9999).due(BAD, "couple", 0, 10000).due(BAD, "couple", 1, -10000)
                .due(9999, "out", 0, 0).due(-9999, "out", 1, 0));
    }

    private static void beams() {
        Edge.terms("BEAMS 0 on (10 at most), by order", () -> {
            StringBuilder text = new StringBuilder(TWO);
            for (int stiff = 1; stiff <= 10; stiff++) {
                text.append("beam 0 1 12 ").append(stiff).append(';');
            }
            Run r = Run.told(text.toString()).due(10, "rule", 2).due(BAD, "beam", 10, 3).due(BAD, "beam", -1, 3);
            for (int b = 0; b < 10; b++) {
                r.due(b + 1, "beam", b, 3);
            }
            r.due(10, "joint", 0, 1).due(10, "joint", 1, 1).due(55, "joint", 0, 2);
            Run.fault(TWO + "beam 0 1 1 1;".repeat(11), 5, 14 + 130);
        });
        Edge.terms("each from a JOINT to another one", () -> {
            Run.told("hold 0;hold 0;hold 0;beam 2 0 1 1;beam 0 2 1 1;").row("beam", 0, 2, 0).row("beam", 1, 0, 2);
            Run.fault(TWO + "beam 1 1 1 1;", 4, 21);
        });
        Edge.terms("of a LENGTH (1, 2, 3, 4, 6 or 12)", () -> {
            for (int length : LENGTHS) {
                Run.told(TWO + "beam 0 1 " + length + " 1;").due(length, "beam", 0, 2);
            }
            for (int length : new int[] {0, 5, 7, 8, 9, 10, 11, 13, 24}) {
                Run.fault(TWO + "beam 0 1 " + length + " 1;", 3, 23);
            }
        });
        Edge.terms("STIFF (1 to 10): K of it is 12 times STIFF by LENGTH.", () -> {
            for (int length : LENGTHS) {
                Run r = Run.told(TWO + "beam 0 1 " + length + " 1;").due(12 / length, "beam", 0, 4);
                r.due(1, "stiffen", 0, 10).due(120 / length, "beam", 0, 4).due(10, "stiffen", 0, 7)
                    .due(84 / length, "beam", 0, 4).due(84 / length, "joint", 1, 2);
            }
            Run.fault("beam 0 1 1 0;", 3, 11);
            Run.fault("beam 0 1 1 11;", 3, 11);
        });
        Edge.terms("ENDS: 2 times a BEAM (at its first JOINT), and 1 (at its second).", () ->
            Run.told("hold 0;hold 0;hold 0;beam 2 0 12 1;beam 1 2 12 1;all 1 1;").due(0, "at", 2, 0).due(3, "at", 2, 1)
                .due(1, "at", 0, 0).due(2, "at", 1, 0).moments(0, 0, -1200, 1200).due(NOTHING, "moment", 4, 1));
    }

    private static void loads() {
        Edge.terms("LOADS 0 on (8 at most), by order, each on a BEAM:", () -> {
            StringBuilder text = new StringBuilder(TWO + "beam0 1 12 1;".repeat(2));
            for (int w = 1; w <= 8; w++) {
                text.append("all ").append(w % 2).append(' ').append(w).append(';');
            }
            Run r = Run.told(text.toString()).due(8, "rule", 3).due(BAD, "load", 8, 0).due(BAD, "load", -1, 0);
            for (int i = 0; i < 8; i++) {
                r.due((i + 1) % 2, "load", i, 0).due(i + 1, "load", i, 2);
            }
            r.due(4, "beam", 0, 5).due(4, "beam", 1, 5).due(FULL, "put", 0, 1, 0).due(0, "fall", 1, 1);
        });
        Edge.terms("a point P (1 to 999) at A (1 to LENGTH less 1), or all W (1 to 99).", () -> {
            for (int length : LENGTHS) {
                Run r = Run.told(TWO + "beam 0 1 " + length + " 1;");
                r.due(BAD, "put", 0, 1, length).due(BAD, "put", 0, 1, -1).due(1, "put", 0, 1, 0)
                    .due(2, "put", 0, 99, 0).due(BAD, "put", 0, 100, 0).due(BAD, "put", 0, 0, 0);
                if (length > 1) {
                    r.due(3, "put", 0, 999, 1).due(4, "put", 0, 1, length - 1).due(BAD, "put", 0, 1000, 1)
                        .due(BAD, "put", 0, 0, length - 1).row("load", 2, 0, 1, 999, 1)
                        .row("load", 3, 0, 1, 1, length - 1);
                }
            }
        });
    }

    private static void firsts() {
        Edge.terms("FIRST of an END: of all LOADS of its BEAM, each cut to a whole number (towards 0), summed, "
            + "L its LENGTH:", () -> {
            // 400 / 9 = 44.4 and 200 / 9 = 22.2: cut after the sum, they would be one more.
            Run.told(TWO + "beam 0 1 3 1;beam 1 0 3 1;point 0 1 1;point 0 1 1;point 0 1 1;")
                .due(-132, "moment", 0, 0).due(66, "moment", 1, 0).due(0, "moment", 2, 0).due(0, "moment", 3, 0);
            // 100 / 12 = 8.3 each.
            Run.told(TWO + "beam 0 1 1 1;" + "all 0 1;".repeat(3)).due(-24, "moment", 0, 0).due(24, "moment", 1, 0);
            Run.told(TWO + "beam 0 1 1 1;").due(0, "moment", 0, 0).due(0, "moment", 1, 0);
        });
        Edge.terms("of a point -100 P A (L - A) (L - A) / (L L) at the first JOINT, "
            + "100 P A A (L - A) / (L L) at the second;", () -> {
            for (int length : LENGTHS) {
                for (int a = 1; a < length; a++) {
                    int rest = length - a;
                    for (int p : new int[] {1, 7, 999}) {
                        Run.told(TWO + "beam 0 1 " + length + " 1;point 0 " + p + " " + a + ";")
                            .due(-(100 * p * a * rest * rest / (length * length)), "moment", 0, 0)
                            .due(100 * p * a * a * rest / (length * length), "moment", 1, 0);
                    }
                }
            }
            // The greatest there are: eight of the greatest P where they press most.
            Run.told(TWO + "beam 0 1 12 1;" + "point 0 999 4;".repeat(8)).due(-8 * 177600, "moment", 0, 0)
                .due(8 * 88800, "moment", 1, 0);
        });
        Edge.terms("of all -100 W L L / 12 at the first, 100 W L L / 12 at the second.", () -> {
            for (int length : LENGTHS) {
                for (int w : new int[] {1, 5, 99}) {
                    int pressed = 100 * w * length * length / 12;
                    Run.told(TWO + "beam 1 0 " + length + " 1;all 0 " + w + ";").due(-pressed, "moment", 0, 0)
                        .due(pressed, "moment", 1, 0);
                }
            }
        });
    }

    /** OUT: 0: -1600; 1: 50 + 1600 - 900; 2: 900 - 30; 3: 8 (no ENDS); 4: 0; 5: 6 (HELD, no ENDS). */
    private static Run six() {
        return Run.told("hold 0;turn 50;turn -30;turn 8;turn 0;hold 6;"
            + "beam 0 1 4 1;beam 1 2 6 2;beam 4 2 12 10;all 0 12;all 1 3;");
    }

    private static void rule() {
        Edge.promise(6, "How many: 0 JOINTS, 1 of these that TURN, 2 BEAMS, 3 LOADS, 4 STEPS, 5 LOOSE JOINTS;", () ->
            six().due(6, "rule", 0).due(4, "rule", 1).due(3, "rule", 2).due(2, "rule", 3).due(0, "rule", 4)
                .due(2, "rule", 5).due(1, "step", 4).due(2, "step", 4).due(2, "rule", 4).due(2, "rule", 5)
                .due(3, "step", 1).due(3, "rule", 4).due(1, "rule", 5));
        Edge.promise(6, "6 OUT of all JOINTS that TURN and have ENDS, without sign, summed;", () -> {
            six().due(750 + 870, "rule", 6);
            Run.told("turn -9999;turn -9999;turn 9999;turn 9999;hold 9999;hold -1;beam 0 1 1 1;beam 2 4 1 1;")
                .due(3 * 9999, "rule", 6).due(1, "hold", 4, 1).due(0, "hold", 0, 1).due(2 * 9999, "rule", 6);
            Run.told("turn 5;hold 7;").due(0, "rule", 6);
        });
        Edge.promise(6, "7 the JOINT of the latest STEP (NONE).", () ->
            six().due(NONE, "rule", 7).due(1, "step", 4).due(4, "rule", 7).due(2, "step", 1).due(1, "rule", 7)
                .due(2, "begin").due(NONE, "rule", 7));
        Edge.promise(6, "BAD.", () ->
            six().due(BAD, "rule", -1).due(BAD, "rule", 8).due(BAD, "rule", MIN).due(BAD, "rule", MAX));
    }

    private static void joint() {
        // K: 12 * 1 / 4 = 3, 12 * 2 / 6 = 4, 12 * 10 / 12 = 10.
        Edge.promise(7, "Of a JOINT: 0 whether it is HELD (1, 0), 1 how many ENDS, 2 all K at it, 3 STEPS at it, "
            + "4 whether it is LOOSE (1, 0).", () -> {
            six().row("joint", 0, 1, 1, 3, 0, 0).row("joint", 1, 0, 2, 7, 0, 1).row("joint", 2, 0, 2, 14, 0, 1)
                .row("joint", 3, 0, 0, 0, 0, 0).row("joint", 4, 0, 1, 10, 0, 0).row("joint", 5, 1, 0, 0, 0, 0)
                .due(1, "step", 2).due(2, "step", 2).due(3, "step", 4).due(2, "joint", 2, 3).due(1, "joint", 4, 3)
                .due(0, "joint", 1, 3).due(1, "joint", 2, 4).due(0, "joint", 4, 4);
            Run.told(TWO + "beam 0 1 1 10;".repeat(10)).row("joint", 0, 1, 10, 1200, 0, 0);
        });
        Edge.promise(7, "BAD.", () ->
            six().due(BAD, "joint", -1, 0).due(BAD, "joint", 6, 0).due(BAD, "joint", MIN, 0).due(BAD, "joint", MAX, 0)
                .due(BAD, "joint", 0, -1).due(BAD, "joint", 0, 5).due(BAD, "joint", 0, MIN).due(BAD, "joint", 0, MAX)
                .takes("hold 0;").due(1, "joint", 0, 0).due(BAD, "joint", 1, 0));
    }

    private static void out() {
        Edge.promise(8, "Of a JOINT: 0 COUPLE, 1 OUT.", () ->
            six().row("out", 0, 0, -1600).row("out", 1, 50, 750).row("out", 2, -30, 870).row("out", 3, 8, 8)
                .row("out", 4, 0, 0).row("out", 5, 6, 6).due(1, "step", 1).due(0, "out", 1, 1).due(50, "out", 1, 0));
        Edge.promise(8, "NOTHING: there is none, another what.", () ->
            six().due(NOTHING, "out", -1, 0).due(NOTHING, "out", 6, 0).due(NOTHING, "out", 6, 1)
                .due(NOTHING, "out", MIN, 1).due(NOTHING, "out", MAX, 1).due(NOTHING, "out", 0, -1)
                .due(NOTHING, "out", 0, 2).due(NOTHING, "out", 0, MIN).due(NOTHING, "out", 0, MAX)
                .takes("hold 4;").due(4, "out", 0, 0).due(NOTHING, "out", 1, 0));
    }

    private static void at() {
        Edge.promise(9, "The i-th END (0 on) at a JOINT, by order.", () -> {
            six().due(0, "at", 0, 0).row("at", 1, 1, 2).row("at", 2, 3, 5).due(4, "at", 4, 0);
            Run r = Run.told(TWO + "beam 0 1 1 1;beam 1 0 1 1;".repeat(5));
            for (int i = 0; i < 10; i++) {
                r.due(2 * i + i % 2, "at", 0, i).due(2 * i + 1 - i % 2, "at", 1, i);
            }
            r.due(NONE, "at", 0, 10).due(NONE, "at", 1, 10);
        });
        Edge.promise(9, "BAD: j, i below 0;", () ->
            six().due(BAD, "at", -1, 0).due(BAD, "at", 6, 0).due(BAD, "at", MIN, 0).due(BAD, "at", MAX, 0)
                .due(BAD, "at", 0, -1).due(BAD, "at", 0, MIN).due(BAD, "at", 3, -1));
        Edge.promise(9, "NONE.", () ->
            six().due(NONE, "at", 0, 1).due(NONE, "at", 1, 2).due(NONE, "at", 3, 0).due(NONE, "at", 5, 0)
                .due(NONE, "at", 0, MAX));
    }

    private static void beam() {
        Edge.promise(10, "Of a BEAM: 0 its first, 1 its second JOINT, 2 LENGTH, 3 STIFF, 4 K, 5 LOADS on it.", () ->
            six().row("beam", 0, 0, 1, 4, 1, 3, 1).row("beam", 1, 1, 2, 6, 2, 4, 1).row("beam", 2, 4, 2, 12, 10, 10, 0)
                .due(3, "put", 1, 1, 5).due(2, "beam", 1, 5).due(2, "lift", 1).due(1, "beam", 1, 5)
                .due(1, "beam", 0, 5));
        Edge.promise(10, "BAD.", () ->
            six().due(BAD, "beam", -1, 0).due(BAD, "beam", 3, 0).due(BAD, "beam", MIN, 0).due(BAD, "beam", MAX, 0)
                .due(BAD, "beam", 0, -1).due(BAD, "beam", 0, 6).due(BAD, "beam", 0, MIN).due(BAD, "beam", 0, MAX)
                .takes("hold 0;").due(BAD, "beam", 0, 0));
    }

    private static void load() {
        Edge.promise(11, "Of a LOAD: 0 BEAM, 1 whether it is a point (1, 0), 2 P or W, 3 A (NONE: all).", () ->
            six().due(3, "put", 2, 500, 11).row("load", 0, 0, 0, 12, NONE).row("load", 1, 1, 0, 3, NONE)
                .row("load", 2, 2, 1, 500, 11));
        Edge.promise(11, "BAD.", () ->
            six().due(BAD, "load", -1, 0).due(BAD, "load", 2, 0).due(BAD, "load", MIN, 0).due(BAD, "load", MAX, 0)
                .due(BAD, "load", 0, -1).due(BAD, "load", 0, 4).due(BAD, "load", 0, MIN).due(BAD, "load", 0, MAX)
                .due(1, "lift", 0).due(3, "load", 0, 2).due(BAD, "load", 1, 2));
    }
}
