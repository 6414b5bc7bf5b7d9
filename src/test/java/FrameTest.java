/** Promises 6 to 11: rule, joint, out, at, beam, load. */
public final class FrameTest {
    /** OUT: 0: -1600; 1: 50 + 1600 - 90; 2: 90 - 30; 3: 8 (no ENDS); 4: 0. */
    private static final String TEXT =
        "hold 0;turn 50;turn -30;turn 8;turn 0;beam 0 1 4 1;beam 1 2 6 2;beam 4 2 12 10;all 0 12;all 1 3;lone";

    public static void main(String[] args) {
        JointMoments x = new JointMoments();
        Check.feed(x, TEXT);
        x.end(TEXT.length() - 4);
        Check.due("text()", x.text(), 10);
        rule(x);
        joint(x);
        out(x);
        at(x);
        beam(x);
        load(x);
        Check.finish();
    }

    private static void rule(JointMoments x) {
        // FIRST of all 3 on a LENGTH of 6: 100 * 3 * 36 / 12 = 900.
        int[] want = {5, 4, 3, 2, 0, 2, 750 + 870, JointMoments.NONE};
        for (int what = 0; what < want.length; what++) {
            Check.due("rule(" + what + ")", x.rule(what), want[what]);
        }
        Check.due("rule(-1)", x.rule(-1), JointMoments.BAD);
        Check.due("rule(8)", x.rule(8), JointMoments.BAD);
        Check.due("step(4)", x.step(4), 1);
        Check.due("rule(4)", x.rule(4), 1);
        Check.due("rule(7)", x.rule(7), 4);
        Check.due("step(2)", x.step(2), 2);
        Check.due("rule(7)", x.rule(7), 2);
        x.begin();
        Check.due("rule(7) anew", x.rule(7), JointMoments.NONE);
        JointMoments y = Check.told("turn -3;turn 4;turn 9;beam 0 1 1 10;");
        Check.due("rule(5) from the first on", y.rule(5), 2);
        Check.due("rule(6) from the first on", y.rule(6), 7);
        Check.due("the greatest K", y.beam(0, 4), 120);
        Check.due("it at its JOINT", y.joint(1, 2), 120);
    }

    private static void joint(JointMoments x) {
        // K: 12 * 1 / 4 = 3, 12 * 2 / 6 = 4, 12 * 10 / 12 = 10.
        int[][] want = {{1, 1, 3, 0, 0}, {0, 2, 7, 0, 1}, {0, 2, 14, 0, 1}, {0, 0, 0, 0, 0}, {0, 1, 10, 0, 0}};
        for (int j = 0; j < want.length; j++) {
            for (int what = 0; what < 5; what++) {
                Check.due("joint(" + j + ", " + what + ")", x.joint(j, what), want[j][what]);
            }
        }
        x.step(1);
        x.step(1);
        x.step(2);
        Check.due("STEPS at 1", x.joint(1, 3), 2);
        Check.due("STEPS at 2", x.joint(2, 3), 1);
        Check.due("STEPS at 4", x.joint(4, 3), 0);
        Check.due("2 is not LOOSE", x.joint(2, 4), 0);
        Check.due("4 is LOOSE", x.joint(4, 4), 1);
        x.begin();
        Check.due("joint(-1, 0)", x.joint(-1, 0), JointMoments.BAD);
        Check.due("joint(5, 0)", x.joint(5, 0), JointMoments.BAD);
        Check.due("joint(0, -1)", x.joint(0, -1), JointMoments.BAD);
        Check.due("joint(0, 5)", x.joint(0, 5), JointMoments.BAD);
    }

    private static void out(JointMoments x) {
        int[][] want = {{0, -1600}, {50, 750}, {-30, 870}, {8, 8}, {0, 0}};
        for (int j = 0; j < want.length; j++) {
            Check.due("out(" + j + ", 0)", x.out(j, 0), want[j][0]);
            Check.due("out(" + j + ", 1)", x.out(j, 1), want[j][1]);
        }
        Check.due("out(-1, 0)", x.out(-1, 0), JointMoments.NOTHING);
        Check.due("out(5, 1)", x.out(5, 1), JointMoments.NOTHING);
        Check.due("out(0, 2)", x.out(0, 2), JointMoments.NOTHING);
        Check.due("out(0, -1)", x.out(0, -1), JointMoments.NOTHING);
    }

    private static void at(JointMoments x) {
        int none = JointMoments.NONE;
        int[][] want = {{0, none, none}, {1, 2, none}, {3, 5, none}, {none, none, none}, {4, none, none}};
        for (int j = 0; j < want.length; j++) {
            for (int i = 0; i < 3; i++) {
                Check.due("at(" + j + ", " + i + ")", x.at(j, i), want[j][i]);
            }
        }
        Check.due("at(-1, 0)", x.at(-1, 0), JointMoments.BAD);
        Check.due("at(5, 0)", x.at(5, 0), JointMoments.BAD);
        Check.due("at(0, -1)", x.at(0, -1), JointMoments.BAD);
        Check.due("at(0, MAX)", x.at(0, Integer.MAX_VALUE), none);
    }

    private static void beam(JointMoments x) {
        int[][] want = {{0, 1, 4, 1, 3, 1}, {1, 2, 6, 2, 4, 1}, {4, 2, 12, 10, 10, 0}};
        for (int b = 0; b < want.length; b++) {
            for (int what = 0; what < 6; what++) {
                Check.due("beam(" + b + ", " + what + ")", x.beam(b, what), want[b][what]);
            }
        }
        Check.due("beam(-1, 0)", x.beam(-1, 0), JointMoments.BAD);
        Check.due("beam(3, 0)", x.beam(3, 0), JointMoments.BAD);
        Check.due("beam(0, -1)", x.beam(0, -1), JointMoments.BAD);
        Check.due("beam(0, 6)", x.beam(0, 6), JointMoments.BAD);
    }

    private static void load(JointMoments x) {
        Check.due("put", x.put(2, 500, 11), 3);
        int[][] want = {{0, 0, 12, JointMoments.NONE}, {1, 0, 3, JointMoments.NONE}, {2, 1, 500, 11}};
        for (int i = 0; i < want.length; i++) {
            for (int what = 0; what < 4; what++) {
                Check.due("load(" + i + ", " + what + ")", x.load(i, what), want[i][what]);
            }
        }
        Check.due("load(-1, 0)", x.load(-1, 0), JointMoments.BAD);
        Check.due("load(3, 0)", x.load(3, 0), JointMoments.BAD);
        Check.due("load(0, -1)", x.load(0, -1), JointMoments.BAD);
        Check.due("load(0, 4)", x.load(0, 4), JointMoments.BAD);
    }
}
