/** Promises 19 to 24: couple, hold, stiffen, put, lift, fall. */
public final class ChangeTest {
    private static final String TEXT = "turn 64;turn 0;hold 0;beam 0 1 12 1;beam 1 2 4 3;all 0 1;";

    public static void main(String[] args) {
        couple();
        hold();
        stiffen();
        put();
        lift();
        fall();
        fallBySeed();
        Check.finish();
    }

    private static JointMoments stepped() {
        JointMoments x = Check.told(TEXT);
        Check.due("step(0)", x.step(0), 1);
        return x;
    }

    private static void anew(String what, JointMoments x) {
        Check.due(what + ": STEPS", x.rule(4), 0);
        Check.due(what + ": the latest", x.rule(7), JointMoments.NONE);
        for (int e = 0; e < 2 * x.rule(2); e++) {
            Check.due(what + ": MOMENT " + e, x.moment(e, 1), x.moment(e, 0));
        }
    }

    private static void goesOn(String what, JointMoments x) {
        Check.due(what + ": STEPS", x.rule(4), 1);
        Check.due(what + ": the latest", x.rule(7), 0);
        Check.that(what + ": MOMENT 0", x.moment(0, 1) != x.moment(0, 0));
    }

    private static void couple() {
        JointMoments x = stepped();
        Check.due("couple(-1, 0)", x.couple(-1, 0), JointMoments.BAD);
        Check.due("couple(3, 0)", x.couple(3, 0), JointMoments.BAD);
        Check.due("couple(0, 10000)", x.couple(0, 10000), JointMoments.BAD);
        Check.due("couple(0, -10000)", x.couple(0, -10000), JointMoments.BAD);
        Check.due("couple(0, MIN)", x.couple(0, Integer.MIN_VALUE), JointMoments.BAD);
        goesOn("couple refused", x);
        Check.due("couple(0, 64)", x.couple(0, 64), 1);
        anew("couple as it was", x);
        Check.due("couple(2, -9999)", x.couple(2, -9999), 1);
        Check.due("couple(1, 9999)", x.couple(1, 9999), 1);
        Check.due("out(2, 0)", x.out(2, 0), -9999);
        Check.due("out(1, 0)", x.out(1, 0), 9999);
        Check.due("out(1, 1)", x.out(1, 1), 9999 + 1200);
        Check.due("out(0, 0)", x.out(0, 0), 64);
    }

    private static void hold() {
        JointMoments x = stepped();
        Check.due("hold(-1, 0)", x.hold(-1, 0), JointMoments.BAD);
        Check.due("hold(3, 0)", x.hold(3, 0), JointMoments.BAD);
        Check.due("hold(0, 2)", x.hold(0, 2), JointMoments.BAD);
        Check.due("hold(0, -1)", x.hold(0, -1), JointMoments.BAD);
        goesOn("hold refused", x);
        Check.due("hold(0, 0) as it was", x.hold(0, 0), 0);
        anew("hold as it was", x);
        Check.due("hold(0, 1)", x.hold(0, 1), 0);
        Check.due("joint(0, 0)", x.joint(0, 0), 1);
        Check.due("hold(0, 1) again", x.hold(0, 1), 1);
        Check.due("rule(1)", x.rule(1), 1);
        Check.due("step(0)", x.step(0), JointMoments.STATE);
        Check.due("hold(2, 0)", x.hold(2, 0), 1);
        Check.due("step(2)", x.step(2), 1);
        x = Check.told("turn 0;turn 0;turn 0;turn 0;hold 0;hold 0;");
        Check.due("a 5th", x.hold(4, 0), JointMoments.FULL);
        Check.due("a wrong one", x.hold(6, 0), JointMoments.BAD);
        Check.due("one of the four", x.hold(3, 0), 0);
        Check.due("HELD as it was", x.hold(5, 1), 1);
        Check.due("one is held", x.hold(3, 1), 0);
        Check.due("a 4th", x.hold(4, 0), 1);
        Check.due("rule(1)", x.rule(1), 4);
    }

    private static void stiffen() {
        JointMoments x = stepped();
        Check.due("stiffen(-1, 1)", x.stiffen(-1, 1), JointMoments.BAD);
        Check.due("stiffen(2, 1)", x.stiffen(2, 1), JointMoments.BAD);
        Check.due("stiffen(0, 0)", x.stiffen(0, 0), JointMoments.BAD);
        Check.due("stiffen(0, 11)", x.stiffen(0, 11), JointMoments.BAD);
        goesOn("stiffen refused", x);
        Check.due("stiffen(1, 3) as it was", x.stiffen(1, 3), 3);
        anew("stiffen as it was", x);
        Check.due("stiffen(1, 10)", x.stiffen(1, 10), 3);
        Check.due("stiffen(1, 1)", x.stiffen(1, 1), 10);
        Check.due("beam(1, 3)", x.beam(1, 3), 1);
        Check.due("beam(1, 4)", x.beam(1, 4), 3);
        Check.due("joint(1, 2)", x.joint(1, 2), 4);
        Check.due("joint(0, 2)", x.joint(0, 2), 1);
    }

    private static void put() {
        JointMoments x = stepped();
        Check.due("put(-1, 1, 1)", x.put(-1, 1, 1), JointMoments.BAD);
        Check.due("put(2, 1, 1)", x.put(2, 1, 1), JointMoments.BAD);
        Check.due("put(1, 1, 4)", x.put(1, 1, 4), JointMoments.BAD);
        Check.due("put(1, 1, -1)", x.put(1, 1, -1), JointMoments.BAD);
        Check.due("put(1, 0, 1)", x.put(1, 0, 1), JointMoments.BAD);
        Check.due("put(1, 1000, 1)", x.put(1, 1000, 1), JointMoments.BAD);
        Check.due("put(1, 0, 0)", x.put(1, 0, 0), JointMoments.BAD);
        Check.due("put(1, 100, 0)", x.put(1, 100, 0), JointMoments.BAD);
        goesOn("put refused", x);
        Check.due("put(1, 999, 3)", x.put(1, 999, 3), 2);
        anew("put", x);
        Check.due("put(1, 99, 0)", x.put(1, 99, 0), 3);
        Check.due("load(1, 3)", x.load(1, 3), 3);
        Check.due("load(2, 3)", x.load(2, 3), JointMoments.NONE);
        Check.due("beam(1, 5)", x.beam(1, 5), 2);
        // 100 * 999 * 3 * 1 / 16 = 18731.25, 100 * 999 * 9 / 16 = 56193.75; 100 * 99 * 16 / 12 = 13200.
        Check.due("FIRST of 2", x.moment(2, 0), -18731 - 13200);
        Check.due("FIRST of 3", x.moment(3, 0), 56193 + 13200);
        for (int n = 4; n <= 8; n++) {
            Check.due("put " + n, x.put(0, n, 1), n);
        }
        x.step(0);
        Check.due("a 9th", x.put(0, 1, 1), JointMoments.FULL);
        Check.due("a wrong one", x.put(0, 1, 12), JointMoments.BAD);
        Check.due("STEPS", x.rule(4), 1);
    }

    private static void lift() {
        JointMoments x = stepped();
        Check.due("lift(-1)", x.lift(-1), JointMoments.BAD);
        Check.due("lift(1)", x.lift(1), JointMoments.BAD);
        goesOn("lift refused", x);
        x.put(1, 11, 1);
        x.put(0, 22, 0);
        x.put(1, 33, 3);
        x.step(0);
        Check.due("lift(1)", x.lift(1), 3);
        anew("lift", x);
        int[][] want = {{0, 0, 1, JointMoments.NONE}, {0, 0, 22, JointMoments.NONE}, {1, 1, 33, 3}};
        for (int i = 0; i < want.length; i++) {
            for (int what = 0; what < 4; what++) {
                Check.due("load(" + i + ", " + what + ")", x.load(i, what), want[i][what]);
            }
        }
        Check.due("lift(3)", x.lift(3), JointMoments.BAD);
        Check.due("lift(2)", x.lift(2), 2);
        Check.due("lift(0)", x.lift(0), 1);
        Check.due("load(0, 2)", x.load(0, 2), 22);
        Check.due("lift(0)", x.lift(0), 0);
        Check.due("lift(0) of none", x.lift(0), JointMoments.BAD);
        Check.due("FIRST of 0", x.moment(0, 0), 0);
    }

    private static void fall() {
        JointMoments x = stepped();
        Check.due("fall(1, 0)", x.fall(1, 0), JointMoments.BAD);
        Check.due("fall(1, 9)", x.fall(1, 9), JointMoments.BAD);
        goesOn("fall refused", x);
        Check.due("fall(1, 1)", x.fall(1, 1), 1);
        anew("fall of one", x);
        x.lift(1);
        x.step(0);
        Check.due("fall(1, 3)", x.fall(1, 3), 3);
        anew("fall", x);
        Check.due("rule(3)", x.rule(3), 4);
        Check.due("fall(1, 8)", x.fall(1, 8), 4);
        x.step(0);
        Check.due("fall(1, 1) without room", x.fall(1, 1), 0);
        Check.due("none came: STEPS", x.rule(4), 1);
        x = Check.told("turn 0;");
        Check.due("fall(1, 1) without BEAMS", x.fall(1, 1), JointMoments.STATE);
        Check.due("fall(1, 9) without BEAMS", x.fall(1, 9), JointMoments.BAD);
    }

    /** Seed 1: 1103527590, got 16838; seed 0: 12345, got 0. */
    private static void fallBySeed() {
        JointMoments x = Check.told("hold 0;hold 0;beam 0 1 12 1;beam 0 1 6 1;beam 0 1 4 1;");
        x.fall(1, 1);
        // 16838 modulo 3 = 2; 16838 / 16 = 1052 modulo 4 = 0; 16838 / 8 = 2104 modulo 99 = 25.
        int[] all = {2, 0, 26, JointMoments.NONE};
        x.fall(0, 1);
        // 0 modulo 3 = 0; A is 0; all of 1.
        int[] least = {0, 0, 1, JointMoments.NONE};
        x.fall(2, 1);
        // 2 * 1103515245 + 12345 = 2207042835, bits 16 to 30: 33676 - 32768 = 908.
        // 908 modulo 3 = 2; 56 modulo 4 = 0; 113 modulo 99 = 14.
        int[] second = {2, 0, 15, JointMoments.NONE};
        x.fall(3, 1);
        // 3 * 1103515245 + 12345 = 3310558080, bits 16 to 30: 50515 - 32768 = 17747.
        // 17747 modulo 3 = 2; 1109 modulo 4 = 1; 2218 modulo 999 = 220.
        int[] point = {2, 1, 221, 1};
        int[][] want = {all, least, second, point};
        for (int i = 0; i < want.length; i++) {
            for (int what = 0; what < 4; what++) {
                Check.due("fallen load(" + i + ", " + what + ")", x.load(i, what), want[i][what]);
            }
        }
        int seed = -77;
        JointMoments y = Check.told("hold 0;hold 0;beam 0 1 12 1;beam 0 1 6 1;");
        y.fall(seed, 8);
        for (int i = 0; i < 8; i++) {
            seed = seed * 1103515245 + 12345;
            int got = seed >> 16 & 32767;
            int place = got / 16 % (got % 2 == 0 ? 12 : 6);
            Check.due("BEAM of " + i, y.load(i, 0), got % 2);
            Check.due("A of " + i, y.load(i, 3), place == 0 ? JointMoments.NONE : place);
            Check.due("P of " + i, y.load(i, 2), got / 8 % (place == 0 ? 99 : 999) + 1);
        }
    }
}
