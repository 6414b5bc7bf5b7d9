/** Promises 12 to 18: moment, share, rank, next, step, sweep, begin. */
public final class MomentTest {
    public static void main(String[] args) {
        firsts();
        sure();
        wrongEnds();
        shares();
        sharesByOnes();
        ranks();
        nextByTurns();
        steps();
        sweeps();
        begins();
        Check.finish();
    }

    /** Each LOAD is cut by itself, towards 0. */
    private static void firsts() {
        JointMoments x = Check.told("hold 0;hold 0;beam 0 1 3 1;point 0 1 1;point 0 1 1;point 0 1 2;");
        // 100 * 1 * 1 * 4 / 9 = 44.4, 100 * 1 * 1 * 2 / 9 = 22.2.
        Check.due("FIRST at 0", x.moment(0, 0), -44 - 44 - 22);
        Check.due("FIRST at 1", x.moment(1, 0), 22 + 22 + 44);
        x = Check.told("hold 0;hold 0;beam 1 0 1 1;all 0 1;all 0 1;");
        Check.due("FIRST of all at 0", x.moment(0, 0), -16);
        Check.due("FIRST of all at 1", x.moment(1, 0), 16);
        x = Check.told("hold 0;hold 0;beam 0 1 12 1;point 0 999 4;all 0 99;");
        Check.due("FIRST of both at 0", x.moment(0, 0), -177600 - 118800);
        Check.due("FIRST of both at 1", x.moment(1, 0), 88800 + 118800);
    }

    private static void sure() {
        JointMoments x = Check.told("hold 0;turn 0;hold 0;beam 0 1 4 1;beam 1 2 6 1;all 0 12;");
        int[] sure = {-2080, 640, -640, -320};
        int[] first = {-1600, 1600, 0, 0};
        for (int e = 0; e < 4; e++) {
            Check.due("SURE of " + e, x.moment(e, 2), sure[e]);
            Check.due("MOMENT less SURE of " + e, x.moment(e, 3), first[e] - sure[e]);
        }
        x.step(1);
        Check.moments("one STEP is all", x, sure);
        for (int e = 0; e < 4; e++) {
            Check.due("FIRST of " + e, x.moment(e, 0), first[e]);
            Check.due("SURE stays of " + e, x.moment(e, 2), sure[e]);
            Check.due("less SURE of " + e, x.moment(e, 3), 0);
        }
        x = Check.told("turn 1;hold 0;beam 0 1 12 1;");
        Check.due("SURE of 0", x.moment(0, 2), -1);
        Check.due("SURE of 1 is rounded down", x.moment(1, 2), -1);
        x.couple(0, -1);
        Check.due("SURE of 0", x.moment(0, 2), 1);
        Check.due("SURE of 1 is rounded down", x.moment(1, 2), 0);
        // 4 X + 2 Y = -300 / 2 K .., two JOINTS that turn: M at 0 is -300, at 1 is 0.
        x = Check.told("turn 300;turn 0;beam 0 1 12 1;");
        Check.due("SURE of 0", x.moment(0, 2), -300);
        Check.due("SURE of 1", x.moment(1, 2), 0);
    }

    private static void wrongEnds() {
        JointMoments x = Check.told("turn 3;hold 0;beam 0 1 12 1;");
        for (int what = 0; what < 4; what++) {
            Check.due("moment(-1, " + what + ")", x.moment(-1, what), JointMoments.NOTHING);
            Check.due("moment(2, " + what + ")", x.moment(2, what), JointMoments.NOTHING);
        }
        Check.due("moment(0, -1)", x.moment(0, -1), JointMoments.NOTHING);
        Check.due("moment(0, 4)", x.moment(0, 4), JointMoments.NOTHING);
        Check.due("share(-1, 0)", x.share(-1, 0), JointMoments.NOTHING);
        Check.due("share(2, 0)", x.share(2, 0), JointMoments.NOTHING);
        Check.due("share(0, -1)", x.share(0, -1), JointMoments.NOTHING);
        Check.due("share(0, 2)", x.share(0, 2), JointMoments.NOTHING);
        Check.due("share(1, 0) of a HELD one", x.share(1, 0), JointMoments.NOTHING);
        Check.due("share(0, 0)", x.share(0, 0), -3);
        Check.due("share(0, 1)", x.share(0, 1), -1);
    }

    private static void shares() {
        JointMoments x = Check.told("hold 0;turn 0;hold 0;beam 0 1 4 1;beam 1 2 6 1;all 0 12;");
        Check.due("share(1, 0)", x.share(1, 0), -960);
        Check.due("share(1, 1)", x.share(1, 1), -480);
        Check.due("share(2, 0)", x.share(2, 0), -640);
        Check.due("share(2, 1)", x.share(2, 1), -320);
        Check.moments("asking changes nothing", x, -1600, 1600, 0, 0);
        Check.due("STEPS", x.rule(4), 0);
        x.step(1);
        Check.due("share(1, 0) of nothing", x.share(1, 0), 0);
        Check.due("share(2, 1) of nothing", x.share(2, 1), 0);
    }

    /** What is left goes to the greatest K first, of several to the first END. */
    private static void sharesByOnes() {
        String star = "hold 0;turn 0;hold 0;hold 0;beam 1 0 12 1;beam 2 1 12 1;beam 1 3 12 1;";
        JointMoments x = Check.told(star);
        x.couple(1, -5);
        x.step(1);
        Check.moments("5 by 1 1 1", x, 2, 1, 1, 2, 1, 0);
        x.couple(1, 5);
        x.step(1);
        Check.moments("-5 by 1 1 1", x, -2, -1, -1, -2, -1, 0);
        x.stiffen(1, 2);
        x.couple(1, -5);
        x.step(1);
        Check.moments("5 by 1 2 1", x, 1, 0, 1, 3, 1, 0);
        x.couple(1, -7);
        x.step(1);
        Check.moments("7 by 1 2 1", x, 2, 1, 2, 4, 1, 0);
        x.couple(1, 7);
        Check.due("share(0, 0) of -7", x.share(0, 0), -2);
        Check.due("share(3, 0) of -7", x.share(3, 0), -4);
        Check.due("share(4, 0) of -7", x.share(4, 0), -1);
        Check.due("share(4, 1) of -7", x.share(4, 1), 0);
    }

    private static void ranks() {
        String text = "turn -5;turn 9;hold 99;turn 5;turn 7;hold 0;beam 0 1 12 1;beam 2 3 12 1;";
        JointMoments x = Check.told(text);
        int[] want = {1, 0, 3, JointMoments.NONE, JointMoments.NONE};
        for (int i = 0; i < want.length; i++) {
            Check.due("rank(" + i + ")", x.rank(i), want[i]);
        }
        Check.due("rank(-1)", x.rank(-1), JointMoments.BAD);
        Check.due("rank(MAX)", x.rank(Integer.MAX_VALUE), JointMoments.NONE);
        Check.due("WORST", x.next(0), 1);
        x.couple(1, 5);
        Check.due("WORST of alike ones", x.next(0), 0);
        Check.due("rank(0) of alike ones", x.rank(0), 0);
        Check.due("rank(1) of alike ones", x.rank(1), 1);
        Check.due("rank(2) of alike ones", x.rank(2), 3);
        x.couple(3, -6);
        Check.due("WORST without sign", x.next(0), 3);
        Check.due("rank(0) without sign", x.rank(0), 3);
    }

    private static void nextByTurns() {
        String text = "turn 5;turn 9;hold 99;turn 5;turn 7;hold 0;beam 0 2 12 1;beam 2 1 12 1;beam 2 3 12 1;";
        JointMoments x = Check.told(text);
        Check.due("next(-1)", x.next(-1), JointMoments.BAD);
        Check.due("next(2)", x.next(2), JointMoments.BAD);
        Check.due("from 0 on", x.next(1), 0);
        x.step(1);
        Check.due("behind 1", x.next(1), 3);
        x.step(3);
        Check.due("behind 3 the first again", x.next(1), 0);
        x.step(0);
        Check.due("none is LOOSE by turns", x.next(1), JointMoments.NONE);
        Check.due("none is LOOSE", x.next(0), JointMoments.NONE);
        Check.due("rank(0) of none", x.rank(0), JointMoments.NONE);
        x = Check.told("turn 5;turn 9;turn 5;hold 0;beam 0 3 12 1;beam 3 1 12 1;beam 3 2 12 1;");
        x.step(0);
        Check.due("just behind 0", x.next(1), 1);
        // The two turn each other: 1 is LOOSE again behind 0, and 0 behind 1.
        x = Check.told("turn 64;turn 0;beam 0 1 12 1;");
        Check.due("step(1) of nothing", x.step(1), 1);
        Check.due("behind 1", x.next(1), 0);
        x.step(0);
        Check.due("behind 0", x.next(1), 1);
        // That of the latest STEP itself comes at last.
        x = Check.told("turn 4;turn 1;hold 0;beam 0 1 12 1;");
        x.step(1);
        x.step(1);
        Check.due("behind 1, 0", x.next(1), 0);
        x = Check.told("hold 0;turn 1;turn 6;beam 1 2 12 1;beam 1 0 12 1;");
        x.step(1);
        x.step(2);
        Check.due("behind 2, the first again", x.next(1), 1);
    }

    private static void steps() {
        JointMoments x = Check.told("turn 64;turn 0;hold 0;turn 5;beam 0 1 12 1;beam 1 2 12 1;");
        Check.due("step(-1)", x.step(-1), JointMoments.BAD);
        Check.due("step(4)", x.step(4), JointMoments.BAD);
        Check.due("step(2) HELD", x.step(2), JointMoments.STATE);
        Check.due("step(3) without ENDS", x.step(3), JointMoments.STATE);
        Check.due("STEPS", x.rule(4), 0);
        Check.due("step(0)", x.step(0), 1);
        Check.moments("behind 0", x, -64, -32, 0, 0);
        Check.due("OUT of 0", x.out(0, 1), 0);
        Check.due("OUT of 1", x.out(1, 1), -32);
        Check.due("step(1)", x.step(1), 2);
        Check.moments("behind 1", x, -56, -16, 16, 8);
        Check.due("OUT of 0", x.out(0, 1), 8);
        Check.due("OUT of the HELD one", x.out(2, 1), 8);
        Check.due("step(1) of nothing", x.step(1), 3);
        Check.moments("behind 1 again", x, -56, -16, 16, 8);
        Check.due("STEPS at 1", x.joint(1, 3), 2);
        Check.due("STEPS at 0", x.joint(0, 3), 1);
        Check.due("the latest", x.rule(7), 1);
    }

    private static void sweeps() {
        String text = "turn 10;turn 100;hold 0;beam 0 1 12 1;beam 1 2 12 1;";
        JointMoments x = Check.told(text);
        Check.due("sweep(-1, 1)", x.sweep(-1, 1), JointMoments.BAD);
        Check.due("sweep(2, 1)", x.sweep(2, 1), JointMoments.BAD);
        Check.due("sweep(0, 0)", x.sweep(0, 0), JointMoments.BAD);
        Check.due("sweep(0, 201)", x.sweep(0, 201), JointMoments.BAD);
        Check.due("sweep(0, 1)", x.sweep(0, 1), 1);
        Check.moments("at the WORST", x, 0 - 25, -50, -50, -25);
        Check.due("the latest", x.rule(7), 1);
        x.begin();
        Check.due("sweep(1, 1)", x.sweep(1, 1), 1);
        Check.moments("by turns", x, -10, -5, 0, 0);
        Check.due("the latest", x.rule(7), 0);
        Check.due("sweep(1, 1)", x.sweep(1, 1), 1);
        Check.due("the latest", x.rule(7), 1);
        Check.due("STEPS", x.rule(4), 2);
        x.begin();
        int done = x.sweep(0, 200);
        Check.that("it ends", done > 1 && done < 200);
        Check.due("as many STEPS", x.rule(4), done);
        Check.due("none is LOOSE", x.rule(5), 0);
        Check.due("nothing is left", x.rule(6), 0);
        Check.due("nothing to do", x.sweep(1, 200), 0);
    }

    private static void begins() {
        JointMoments x = Check.told("turn 64;turn 0;beam 0 1 12 1;all 0 1;");
        int first = x.moment(0, 1);
        Check.due("begin() of none", x.begin(), 0);
        x.step(0);
        x.step(1);
        x.step(0);
        Check.due("begin()", x.begin(), 3);
        Check.due("STEPS", x.rule(4), 0);
        Check.due("STEPS at 0", x.joint(0, 3), 0);
        Check.due("the latest", x.rule(7), JointMoments.NONE);
        Check.moments("FIRST", x, first, -first);
        Check.due("OUT", x.out(0, 1), 64 + first);
        Check.due("from 0 on", x.next(1), 0);
    }
}
