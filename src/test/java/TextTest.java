/** Promises 1 to 5: the new object, THE TAPE, the text and its FAULTS. */
public final class TextTest {
    public static void main(String[] args) {
        newObject();
        tape();
        end();
        taken();
        faultsOfTokens();
        faultsOfPlaces();
        faultsOfBounds();
        faultsOfNumbers();
        faultsBehindAll();
        whatIsMetFirst();
        faultChangesNothing();
        takenTellsAll();
        Check.finish();
    }

    private static void newObject() {
        JointMoments x = new JointMoments();
        int[] rules = {0, 0, 0, 0, 0, 0, 0, JointMoments.NONE};
        for (int what = 0; what < rules.length; what++) {
            Check.due("new rule(" + what + ")", x.rule(what), rules[what]);
        }
        for (int k = 0; k < 4; k++) {
            Check.due("new lay(" + k + ", 0, 0)", x.lay(k, 0, 0), -11);
        }
        Check.due("new count(0)", x.count(0), 0);
        Check.due("new count(1)", x.count(1), 0);
        Check.due("new count(2)", x.count(2), JointMoments.NONE);
        Check.due("new count(3)", x.count(3), 0);
        Check.due("new fault()", x.fault(), 0);
        Check.due("new torn()", x.torn(), 0);
        Check.due("new begin()", x.begin(), 0);
        Check.due("new joint(0, 0)", x.joint(0, 0), JointMoments.BAD);
        Check.due("new beam(0, 0)", x.beam(0, 0), JointMoments.BAD);
        Check.due("new back(0)", x.back(0), JointMoments.STATE);
    }

    private static void tape() {
        JointMoments x = new JointMoments();
        Check.due("feed(-1)", x.feed(-1), JointMoments.BAD);
        Check.due("feed(128)", x.feed(128), JointMoments.BAD);
        Check.due("feed(MIN)", x.feed(Integer.MIN_VALUE), JointMoments.BAD);
        Check.due("feed(0)", x.feed(0), 1);
        Check.due("feed(127)", x.feed(127), 2);
        for (int n = 3; n <= 320; n++) {
            Check.due("feed " + n, x.feed(32), n);
        }
        Check.due("the 321st", x.feed(32), JointMoments.FULL);
        Check.due("a wrong byte on a full tape", x.feed(200), JointMoments.BAD);
        Check.due("count(1)", x.count(1), 320);
    }

    private static void end() {
        JointMoments x = new JointMoments();
        Check.due("end(0) of none", x.end(0), 0);
        Check.due("end(1) of none", x.end(1), JointMoments.BAD);
        Check.feed(x, "hold 0;hold 1;rest");
        Check.due("end(-1)", x.end(-1), JointMoments.BAD);
        Check.due("end(19)", x.end(19), JointMoments.BAD);
        Check.due("end(18)", x.end(18), 18);
        Check.due("end(14)", x.end(14), 18);
        Check.due("count(1)", x.count(1), 14);
        Check.due("end(15)", x.end(15), JointMoments.BAD);
        Check.due("text()", x.text(), 2);
        Check.due("out(1, 0)", x.out(1, 0), 1);
        Check.due("count(1) behind text", x.count(1), 0);
    }

    private static void taken() {
        takes("", 0);
        takes("     ", 0);
        takes("hold1;turn-2;beam0 1 12 10;point0 999 11;all0 99;", 5);
        takes("  hold  0 ;  turn  -  9999  ;  ", 2);
        takes("all 0 1;beam 0 1 1 1;hold 0009;turn 0000;", 4);
        takes("turn 9999;turn -9999;turn -0;turn 0;hold 0;hold 0;", 6);
        JointMoments x = Check.told("turn -12;hold 7;hold 0;turn 3;beam 3 1 6 4;beam 0 2 12 10;all 1 99;point 0 999 5;");
        int[][] joints = {{0, -12}, {1, 7}, {1, 0}, {0, 3}};
        for (int j = 0; j < joints.length; j++) {
            Check.due("joint(" + j + ", 0)", x.joint(j, 0), joints[j][0]);
            Check.due("out(" + j + ", 0)", x.out(j, 0), joints[j][1]);
        }
        int[][] beams = {{3, 1, 6, 4, 8, 1}, {0, 2, 12, 10, 10, 1}};
        for (int b = 0; b < beams.length; b++) {
            for (int what = 0; what < 6; what++) {
                Check.due("beam(" + b + ", " + what + ")", x.beam(b, what), beams[b][what]);
            }
        }
        int[][] loads = {{1, 0, 99, JointMoments.NONE}, {0, 1, 999, 5}};
        for (int i = 0; i < loads.length; i++) {
            for (int what = 0; what < 4; what++) {
                Check.due("load(" + i + ", " + what + ")", x.load(i, what), loads[i][what]);
            }
        }
    }

    private static void faultsOfTokens() {
        refuses("Turn 1;", 0, 1);
        refuses("turn\t1;", 4, 1);
        refuses("turn 1;\n", 7, 1);
        refuses("turn +1;", 5, 1);
        refuses("turn -@1;", 6, 1);
        refuses("turn -12345;", 6, 1);
        refuses("turn 1,", 6, 1);
        refuses("turn 12345;", 5, 1);
        refuses("turn 00001;", 5, 1);
        refuses("  12345", 2, 1);
        refuses("hold 1234567890123;", 5, 1);
        refuses("hold 0;`", 7, 1);
        refuses("hold 0;{", 7, 1);
        refuses("hold /;", 5, 1);
        refuses("hold :;", 5, 1);
        JointMoments x = new JointMoments();
        x.feed(0);
        Check.due("text of byte 0", x.text(), -10);
        Check.due("fault of byte 0", x.fault(), 1);
        x.feed(127);
        Check.due("text of byte 127", x.text(), -10);
        Check.due("fault of byte 127", x.fault(), 1);
    }

    private static void faultsOfPlaces() {
        refuses("1", 0, 2);
        refuses(";", 0, 2);
        refuses("-", 0, 2);
        refuses("turnx 1;", 0, 2);
        refuses("tur 1;", 0, 2);
        refuses("xurn 1;", 0, 2);
        refuses("bold 1;", 0, 2);
        refuses("z", 0, 2);
        refuses("turnz 1;", 0, 2);
        refuses("turnhold 1;", 0, 2);
        refuses("points 0 1 1;", 0, 2);
        refuses("hold 0; x", 8, 2);
        refuses("turn", 4, 2);
        refuses("turn   ", 7, 2);
        refuses("turn 1", 6, 2);
        refuses("turn 1  ", 8, 2);
        refuses("turn ;", 5, 2);
        refuses("turn -", 6, 2);
        refuses("turn --1;", 6, 2);
        refuses("turn x;", 5, 2);
        refuses("turn 1 2;", 7, 2);
        refuses("turn 1-;", 6, 2);
        refuses("turn 1;;", 7, 2);
        refuses("turn 1 hold 2;", 7, 2);
        refuses("beam 0 1 4;", 10, 2);
        refuses("beam -0 1 4 1;", 5, 2);
        refuses("beam 0 1 4 1 1;", 13, 2);
        refuses("point 0 1;", 9, 2);
        refuses("point 0 1 1 1;", 12, 2);
        refuses("all 0;", 5, 2);
        refuses("all 0 1 1;", 8, 2);
        refuses("all 0 1", 7, 2);
    }

    private static void faultsOfBounds() {
        refuses("beam 6 0 1 1;", 5, 3);
        refuses("beam 0 6 1 1;", 7, 3);
        int[] wrongLengths = {0, 5, 7, 8, 9, 10, 11, 13, 24, 9999};
        for (int length : wrongLengths) {
            refuses("beam 0 1 " + length + " 1;", 9, 3);
        }
        int[] lengths = {1, 2, 3, 4, 6, 12};
        for (int length : lengths) {
            takes("hold 0;hold 0;beam 0 1 " + length + " 1;", 3);
        }
        refuses("beam 0 1 1 0;", 11, 3);
        refuses("beam 0 1 1 11;", 11, 3);
        refuses("point 10 1 1;", 6, 3);
        refuses("point 0 0 1;", 8, 3);
        refuses("point 0 1000 1;", 8, 3);
        refuses("point 0 1 0;", 10, 3);
        refuses("point 0 1 12;", 10, 3);
        refuses("all 10 1;", 4, 3);
        refuses("all 0 0;", 6, 3);
        refuses("all 0 100;", 6, 3);
        refuses("beam 0 0 1 1;", 7, 4);
        refuses("beam 5 5 1 1;", 7, 4);
    }

    private static void faultsOfNumbers() {
        refuses("hold 0;".repeat(7), 42, 5);
        refuses("hold 0;hold 0;" + "turn 0;".repeat(4) + " hold 0;", 43, 5);
        refuses("turn 0;".repeat(5), 28, 5);
        takes("hold 0;hold 0;" + "beam 0 1 1 1;".repeat(10), 12);
        refuses("hold 0;hold 0;" + "beam 0 1 1 1;".repeat(11), 14 + 130, 5);
        takes("hold 0;hold 0;beam 0 1 2 1;" + "all 0 1;".repeat(7) + "point 0 1 1;", 11);
        refuses("all 0 1;".repeat(8) + "point 0 1 1;", 64, 5);
        refuses("point 0 1 1;".repeat(8) + "all 0 1;", 96, 5);
    }

    private static void faultsBehindAll() {
        refuses("hold 0;beam 0 1 1 1;", 20, 6);
        refuses("hold 0;beam 1 0 1 1;  ", 22, 6);
        refuses("all 0 1;", 8, 6);
        refuses("hold 0;hold 0;beam 0 1 4 1;all 1 1;", 35, 6);
        refuses("hold 0;hold 0;beam 0 1 4 1;point 0 1 4;", 39, 6);
        refuses("hold 0;hold 0;beam 0 1 1 1;point 0 1 1;", 39, 6);
        takes("hold 0;hold 0;beam 0 1 4 1;point 0 1 3;", 4);
    }

    private static void whatIsMetFirst() {
        refuses("beam 6 @", 5, 3);
        refuses("beam 0 @", 7, 1);
        refuses("beam 0 0 @", 7, 4);
        refuses("beam 0 1 5 12345;", 9, 3);
        refuses("turn 12345 @", 5, 1);
        refuses("turn 0;".repeat(4) + "turn@", 28, 5);
        refuses("hold 0;".repeat(6) + "hold", 42, 5);
        refuses("hold 0;".repeat(6) + "holds", 42, 2);
        refuses("all 9 1;all 0 0;", 14, 3);
    }

    private static void faultChangesNothing() {
        JointMoments x = Check.told("turn 40;hold 0;beam 0 1 12 1;");
        Check.due("keep(0)", x.keep(0), 0);
        Check.due("step(0)", x.step(0), 1);
        Check.due("a text with a FAULT", Check.tell(x, "hold 0;hold"), -21);
        Check.due("its fault()", x.fault(), 2);
        Check.due("its tape", x.count(1), 0);
        Check.due("JOINTS", x.rule(0), 2);
        Check.due("STEPS", x.rule(4), 1);
        Check.due("IMAGES", x.count(0), 1);
        Check.due("COUPLE", x.out(0, 0), 40);
        Check.moments("as they were", x, -40, -20);
        Check.due("a text behind it", Check.tell(x, "hold 5;"), 1);
        Check.due("its fault() is gone", x.fault(), 0);
    }

    private static void takenTellsAll() {
        JointMoments x = Check.told("turn 40;hold 0;beam 0 1 12 1;all 0 12;");
        x.keep(0);
        x.keep(1);
        x.sheet(0, 1, 7);
        x.step(0);
        Check.due("hold 5;turn 6;", Check.tell(x, "hold 5;turn 6;"), 2);
        Check.due("JOINTS", x.rule(0), 2);
        Check.due("BEAMS", x.rule(2), 0);
        Check.due("LOADS", x.rule(3), 0);
        Check.due("STEPS", x.rule(4), 0);
        Check.due("the latest STEP", x.rule(7), JointMoments.NONE);
        Check.due("STEPS at 0", x.joint(0, 3), 0);
        Check.due("IMAGES", x.count(0), 0);
        Check.due("back(0)", x.back(0), JointMoments.STATE);
        Check.due("back(1)", x.back(1), JointMoments.STATE);
        Check.due("SHEET 0", x.count(2), 7);
        Check.due("the empty text", x.text(), 0);
        Check.due("JOINTS of it", x.rule(0), 0);
    }

    private static void takes(String text, int lines) {
        JointMoments x = new JointMoments();
        Check.due("text of '" + text + "'", Check.tell(x, text), lines);
        Check.due("fault of '" + text + "'", x.fault(), 0);
    }

    private static void refuses(String text, int place, int fault) {
        JointMoments x = new JointMoments();
        Check.due("text of '" + text + "'", Check.tell(x, text), -10 - place);
        Check.due("fault of '" + text + "'", x.fault(), fault);
        Check.due("JOINTS of '" + text + "'", x.rule(0), 0);
        Check.due("bytes behind '" + text + "'", x.count(1), 0);
    }
}
