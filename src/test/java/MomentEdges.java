/** Promises 12 to 15, and the Terms about MOMENT, OUT, LOOSE, SURE, WORST and NEXT by turns. */
final class MomentEdges {
    private static final int BAD = Run.BAD, NONE = Run.NONE, NOTHING = Run.NOTHING, MIN = Run.MIN, MAX = Run.MAX;
    private static final String PROPPED = "hold 0;turn 0;hold 0;beam 0 1 4 1;beam 1 2 6 1;all 0 12;";

    private MomentEdges() {
    }

    static void all() {
        terms();
        sure();
        moment();
        share();
        worst();
        byTurns();
        rank();
        next();
    }

    private static void terms() {
        Edge.terms("MOMENT of an END: FIRST, and what came to it by STEPS.", () ->
            Run.told("turn 64;turn 0;hold 0;beam 0 1 12 1;beam 1 2 12 1;all 1 1;").moments(0, 0, -1200, 1200)
                .due(1, "step", 0).moments(-64, -32, -1200, 1200).due(2, "step", 1)
                .moments(-64 + 308, -32 + 616, -1200 + 616, 1200 + 308).due(-1200, "moment", 2, 0));
        Edge.terms("OUT of a JOINT: its COUPLE and the MOMENTS of all ENDS at it, summed.", () ->
            Run.told("turn 64;turn 7;hold 5;turn-9;beam 0 1 12 1;beam 1 2 12 1;all 1 1;").due(64, "out", 0, 1)
                .due(7 - 1200, "out", 1, 1).due(5 + 1200, "out", 2, 1).due(-9, "out", 3, 1).due(1, "step", 0)
                .due(0, "out", 0, 1).due(7 - 32 - 1200, "out", 1, 1).due(1205, "out", 2, 1));
        Edge.terms("LOOSE is a JOINT that TURNS, has any END, and whose OUT is not 0.", () ->
            Run.told("turn 1;turn-1;hold 9;turn 9;turn 0;beam 0 2 12 1;beam 1 2 12 1;beam 4 2 12 1;")
                .due(1, "joint", 0, 4).due(1, "joint", 1, 4).due(0, "joint", 2, 4).due(0, "joint", 3, 4)
                .due(0, "joint", 4, 4).due(2, "rule", 5).due(1, "step", 0).due(0, "joint", 0, 4).due(1, "rule", 5)
                .due(0, "hold", 1, 1).due(0, "joint", 1, 4).due(1, "hold", 2, 0).due(1, "joint", 2, 4));
    }

    private static void sure() {
        Edge.terms("SURE of an END: FIRST, and 2 K times (2 X of the JOINT at it, and X of the other), "
            + "all rounded down;", () -> {
            // X of 0 is -1 / (4 K): -1 at it, -1/2 at the other, which is -1 when rounded down; turned about, 1/2 is 0.
            Run.told("turn 1;hold 0;beam 0 1 12 1;").due(-1, "moment", 0, 2).due(-1, "moment", 1, 2)
                .due(1, "couple", 0, -1).due(1, "moment", 0, 2).due(0, "moment", 1, 2).due(1, "couple", 0, 3)
                .due(-3, "moment", 0, 2).due(-2, "moment", 1, 2).due(1, "couple", 0, 2).due(-2, "moment", 0, 2)
                .due(-1, "moment", 1, 2);
            Run.told(PROPPED).row("moment", 0, -1600, -1600, -2080).row("moment", 1, 1600, 1600, 640)
                .row("moment", 2, 0, 0, -640).row("moment", 3, 0, 0, -320);
        });
        Edge.terms("X are fractions, of HELD ones 0, by which in each JOINT that TURNS and has ENDS its COUPLE, "
            + "and FIRST and 2 K times that of all ENDS at it, are 0 in all.", () -> {
            Run.told("hold 500;hold-7;beam 0 1 12 1;all 0 1;").due(-1200, "moment", 0, 2).due(1200, "moment", 1, 2);
            // One that TURNS without ENDS is in no equation.
            Run.told("turn 5;turn 1;hold 0;beam 1 2 12 1;").due(-1, "moment", 0, 2).due(-1, "moment", 1, 2);
            Run.told("turn 300;turn 0;beam 0 1 12 1;").due(-300, "moment", 0, 2).due(0, "moment", 1, 2);
            // All four alike: 7 and two ENDS of -3.5 each.
            Run ring = Run.told("turn 7;turn 7;turn 7;turn 7;beam 0 1 6 5;beam 1 2 6 5;beam 2 3 6 5;beam 3 0 6 5;");
            for (int e = 0; e < 8; e++) {
                ring.due(-4, "moment", e, 2);
            }
            // Two BEAMS side by side: X of 1 is 75 / 7, of 0 it is -4 times that; at 1: 300 / 7 each, 600 / 7 on the third.
            Run.told("turn 300;turn 0;hold 0;beam 0 1 12 1;beam 1 0 12 1;beam 1 2 12 2;").due(-150, "moment", 0, 2)
                .due(-43, "moment", 1, 2).due(-43, "moment", 2, 2).due(-150, "moment", 3, 2)
                .due(85, "moment", 4, 2).due(42, "moment", 5, 2);
            // The greatest that there are: K of 120 at four JOINTS, and eight LOADS where they press most.
            Run wide = Run.told("turn 9999;turn 9999;turn 9999;turn 9999;hold 0;"
                + "beam 0 4 12 1;beam 0 1 1 10;beam 1 2 1 10;beam 2 3 1 10;" + "point 0 999 4;".repeat(8));
            Plain plain = plain("turn 9999;turn 9999;turn 9999;turn 9999;hold 0;"
                + "beam 0 4 12 1;beam 0 1 1 10;beam 1 2 1 10;beam 2 3 1 10;" + "point 0 999 4;".repeat(8));
            for (int e = 0; e < 8; e++) {
                wide.due(plain.sure(e), "moment", e, 2);
            }
        });
    }

    private static Plain plain(String text) {
        Plain plain = new Plain();
        for (int i = 0; i < text.length(); i++) {
            plain.call("feed", text.charAt(i));
        }
        plain.text();
        return plain;
    }

    private static void moment() {
        Edge.promise(12, "Of an END: 0 FIRST, 1 MOMENT, 2 SURE, 3 MOMENT less SURE.", () ->
            Run.told(PROPPED).row("moment", 0, -1600, -1600, -2080, 480).row("moment", 3, 0, 0, -320, 320)
                .due(1, "step", 1).row("moment", 0, -1600, -2080, -2080, 0).row("moment", 1, 1600, 640, 640, 0)
                .row("moment", 2, 0, -640, -640, 0).row("moment", 3, 0, -320, -320, 0));
        Edge.promise(12, "NOTHING: there is none, another what.", () -> {
            Run r = Run.told(PROPPED);
            for (int what = 0; what < 4; what++) {
                r.due(NOTHING, "moment", -1, what).due(NOTHING, "moment", 4, what).due(NOTHING, "moment", MIN, what)
                    .due(NOTHING, "moment", MAX, what).due(NOTHING, "moment", 20, what);
            }
            r.due(NOTHING, "moment", 0, -1).due(NOTHING, "moment", 0, 4).due(NOTHING, "moment", 0, MIN)
                .due(NOTHING, "moment", 0, MAX);
            Run.told("turn 5;").due(NOTHING, "moment", 0, 0);
            Run full = Run.told("hold 0;hold 0;" + "beam0 1 12 1;".repeat(10) + "all 9 1;");
            full.due(1200, "moment", 19, 2).due(NOTHING, "moment", 20, 2);
        });
    }

    private static void share() {
        Edge.promise(13, "What an END gets in a STEP at its JOINT, if that were the next one (what 0), "
            + "what the other END of its BEAM gets by that (1).", () -> {
            Run.told(PROPPED).row("share", 1, -960, -480).row("share", 2, -640, -320).moments(-1600, 1600, 0, 0)
                .due(0, "rule", 4).due(1600, "out", 1, 1).due(1, "step", 1).row("share", 1, 0, 0).row("share", 2, 0, 0);
            Run.told("turn 3;hold 0;beam 0 1 12 1;").row("share", 0, -3, -1).due(1, "couple", 0, -3)
                .row("share", 0, 3, 1).due(1, "couple", 0, 1).row("share", 0, -1, 0).due(1, "couple", 0, -1)
                .row("share", 0, 1, 0).due(1, "couple", 0, 0).row("share", 0, 0, 0);
            // The one that is left is shared, too: 4, 3 of 7; it counts in the half.
            Run.told("turn-7;hold 0;beam 0 1 12 1;beam 1 0 12 1;").row("share", 0, 4, 2).row("share", 3, 3, 1);
        });
        Edge.promise(13, "NOTHING: no such END, its JOINT is HELD, another what.", () -> {
            Run.told(PROPPED).row("share", 0, NOTHING, NOTHING).row("share", 3, NOTHING, NOTHING)
                .row("share", -1, NOTHING, NOTHING).row("share", 4, NOTHING, NOTHING).due(NOTHING, "share", MIN, 0)
                .due(NOTHING, "share", MAX, 1).due(NOTHING, "share", 1, -1).due(NOTHING, "share", 1, 2)
                .due(NOTHING, "share", 1, MIN).due(NOTHING, "share", 1, MAX).due(0, "hold", 1, 1)
                .due(NOTHING, "share", 1, 0).due(1, "hold", 0, 0).row("share", 0, 1600, 800);
            Run.told("turn 5;").due(NOTHING, "share", 0, 0);
        });
    }

    private static void worst() {
        Edge.terms("WORST is that LOOSE JOINT whose OUT is greatest (without sign), of several the first.", () -> {
            String text = "turn-5;turn 4;hold 99;turn 5;turn 70;beam 0 2 12 1;beam 1 2 12 1;beam 3 2 12 1;";
            Run.told(text).due(0, "next", 0).due(1, "couple", 1, -5).due(0, "next", 0).due(1, "couple", 1, 6)
                .due(1, "next", 0).due(1, "couple", 3, -7).due(3, "next", 0).due(1, "couple", 1, 7).due(1, "next", 0)
                .due(1, "couple", 0, 7).due(0, "next", 0);
            Run.told("hold 0;turn 1;beam 0 1 12 1;").due(1, "next", 0).due(1, "couple", 1, -1).due(1, "next", 0);
        });
    }

    private static void byTurns() {
        String ring = "turn 5;turn 9;hold 99;turn 5;turn 7;hold 0;beam 0 2 12 1;beam 2 1 12 1;beam 2 3 12 1;";
        Edge.terms("NEXT by turns: the first LOOSE one behind that of the latest STEP, by order, "
            + "behind the last the first again (that one itself at last);", () -> {
            Run.told(ring).due(1, "step", 0).due(1, "next", 1).due(2, "step", 1).due(3, "next", 1).due(3, "step", 3)
                .due(NONE, "next", 1);
            Run.told(ring).due(1, "step", 3).due(0, "next", 1).due(2, "step", 0).due(1, "next", 1);
            Run.told(ring).due(1, "step", 1).due(3, "next", 1).due(2, "step", 3).due(0, "next", 1);
            // The last JOINT of six, and the first.
            Run.told("turn 1;hold 0;hold 0;hold 0;hold 0;turn 1;beam 0 1 12 1;beam 5 1 12 1;").due(1, "step", 5)
                .due(0, "next", 1).due(2, "step", 5).due(0, "next", 1).due(3, "step", 0).due(NONE, "next", 1);
            // WORST does not ask for the latest STEP.
            Run.told(ring).due(1, "step", 1).due(0, "next", 0);
            // By turns does not ask who is worst, nor a STEP whether it was of use.
            Run.told("turn 1;turn 9;turn 0;hold 0;beam 0 3 12 1;beam 1 3 12 1;beam 2 3 12 1;").due(0, "next", 1)
                .due(1, "step", 2).due(0, "next", 1).due(2, "step", 0).due(1, "next", 1);
        });
        Edge.terms("without STEPS from 0 on.", () ->
            Run.told(ring).due(0, "next", 1).due(1, "step", 0).due(1, "next", 1).due(1, "begin").due(0, "next", 1)
                .due(1, "couple", 0, 0).due(1, "next", 1).due(1, "couple", 1, 0).due(3, "next", 1)
                .due(1, "step", 3).due(1, "couple", 0, 1).due(0, "next", 1));
    }

    private static void rank() {
        Edge.promise(14, "The i-th JOINT (0 on) of those that are LOOSE, by OUT, the greatest first (without sign), "
            + "of alike ones by order.", () -> {
            String text = "turn-5;turn 9;hold 99;turn 5;turn 70;beam 0 2 12 1;beam 1 2 12 1;beam 3 2 12 1;";
            Run.told(text).due(1, "rank", 0).due(0, "rank", 1).due(3, "rank", 2).due(1, "couple", 3, -6)
                .due(1, "rank", 0).due(3, "rank", 1).due(0, "rank", 2).due(1, "couple", 1, 5).due(3, "rank", 0)
                .due(0, "rank", 1).due(1, "rank", 2).due(1, "couple", 3, 5).due(0, "rank", 0).due(1, "rank", 1)
                .due(3, "rank", 2).due(1, "step", 0).due(1, "rank", 0).due(3, "rank", 1);
            Run.told("turn 1;turn 2;turn 3;turn-4;hold 0;beam 0 4 12 1;beam 1 4 12 1;beam 2 4 12 1;beam 3 4 12 1;")
                .due(3, "rank", 0).due(2, "rank", 1).due(1, "rank", 2).due(0, "rank", 3).due(NONE, "rank", 4);
        });
        Edge.promise(14, "BAD: i below 0;", () ->
            Run.told(PROPPED).due(BAD, "rank", -1).due(BAD, "rank", MIN).due(1, "rank", 0));
        Edge.promise(14, "NONE: there are not so many.", () ->
            Run.told(PROPPED).due(NONE, "rank", 1).due(NONE, "rank", 5).due(NONE, "rank", 6).due(NONE, "rank", MAX)
                .due(1, "step", 1).due(NONE, "rank", 0));
    }

    private static void next() {
        Edge.promise(15, "WORST (way 0), NEXT by turns (1).", () ->
            Run.told("turn 1;turn 9;turn 3;hold 0;beam 0 3 12 1;beam 1 3 12 1;beam 2 3 12 1;").due(1, "next", 0)
                .due(0, "next", 1).due(1, "step", 1).due(2, "next", 0).due(2, "next", 1).due(1, "rule", 4));
        Edge.promise(15, "BAD;", () ->
            Run.told(PROPPED).due(BAD, "next", -1).due(BAD, "next", 2).due(BAD, "next", MIN).due(BAD, "next", MAX));
        Edge.promise(15, "NONE: none is LOOSE.", () -> {
            Run.told(PROPPED).due(1, "step", 1).due(NONE, "next", 0).due(NONE, "next", 1);
            Run.told("turn 9;hold 9;").due(NONE, "next", 0).due(NONE, "next", 1);
            Run.told("hold 9;hold 9;beam 0 1 12 1;").due(NONE, "next", 0).due(NONE, "next", 1);
            Run.told("turn 0;hold 9;beam 0 1 12 1;").due(NONE, "next", 0).due(NONE, "next", 1);
        });
    }
}
