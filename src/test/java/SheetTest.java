/** Promises 25 to 31: keep, back, sheet, lay, read, torn, count. */
public final class SheetTest {
    private static final String TEXT = "turn 64;turn 0;hold 7;beam 0 1 12 1;beam 1 2 4 3;all 0 1;";

    public static void main(String[] args) {
        images();
        imagesAreWhole();
        sheets();
        lays();
        lanes();
        reads();
        refusedReads();
        machineFaults();
        nothingIsRead();
        counts();
        Check.finish();
    }

    private static void images() {
        JointMoments x = Check.told(TEXT);
        Check.due("keep(-1)", x.keep(-1), JointMoments.BAD);
        Check.due("keep(2)", x.keep(2), JointMoments.BAD);
        Check.due("back(-1)", x.back(-1), JointMoments.BAD);
        Check.due("back(2)", x.back(2), JointMoments.BAD);
        Check.due("back(1) of none", x.back(1), JointMoments.STATE);
        x.step(0);
        Check.due("keep(1)", x.keep(1), 0);
        Check.due("keep goes on", x.rule(4), 1);
        Check.due("keep(1) again", x.keep(1), 1);
        Check.due("keep(0)", x.keep(0), 0);
        Check.due("back(1)", x.back(1), 3);
        Check.due("back begins anew", x.rule(4), 0);
        Check.due("MOMENT", x.moment(0, 1), x.moment(0, 0));
        x.step(0);
        x.back(2);
        Check.due("back refused goes on", x.rule(4), 1);
    }

    private static void imagesAreWhole() {
        JointMoments x = Check.told(TEXT);
        x.keep(0);
        x.couple(0, 1);
        x.hold(2, 0);
        x.stiffen(1, 9);
        x.put(1, 5, 2);
        x.lift(0);
        x.keep(1);
        Check.due("back(0)", x.back(0), 3);
        Check.due("COUPLE", x.out(0, 0), 64);
        Check.due("HELD", x.joint(2, 0), 1);
        Check.due("STIFF", x.beam(1, 3), 3);
        Check.due("LOADS", x.rule(3), 1);
        Check.due("a LOAD", x.load(0, 1), 0);
        Check.due("K at 1", x.joint(1, 2), 10);
        Check.due("FIRST", x.moment(1, 1), 1200);
        x.couple(0, 2);
        Check.due("back(1)", x.back(1), 3);
        Check.due("COUPLE", x.out(0, 0), 1);
        Check.due("HELD", x.joint(2, 0), 0);
        Check.due("STIFF", x.beam(1, 3), 9);
        Check.due("a LOAD", x.load(0, 3), 2);
        x.stiffen(1, 4);
        Check.due("back(1) again", x.back(1), 3);
        Check.due("an IMAGE stays", x.beam(1, 3), 9);
    }

    private static void sheets() {
        JointMoments x = new JointMoments();
        Check.due("sheet(-1, 0, 1)", x.sheet(-1, 0, 1), JointMoments.BAD);
        Check.due("sheet(4, 0, 1)", x.sheet(4, 0, 1), JointMoments.BAD);
        Check.due("sheet(0, -1, 1)", x.sheet(0, -1, 1), JointMoments.BAD);
        Check.due("sheet(0, 3, 1)", x.sheet(0, 3, 1), JointMoments.BAD);
        Check.due("sheet(0, 0, 41)", x.sheet(0, 0, 41), JointMoments.BAD);
        Check.due("sheet(0, 0, -1)", x.sheet(0, 0, -1), -14);
        Check.due("sheet(4, 0, -1)", x.sheet(4, 0, -1), JointMoments.BAD);
        Check.due("sheet(0, 3, -1)", x.sheet(0, 3, -1), JointMoments.BAD);
        Check.due("nothing still", x.count(2), JointMoments.NONE);
        Check.due("sheet(0, 0, 0)", x.sheet(0, 0, 0), 1);
        Check.due("no CELLS", x.count(2), 0);
        Check.due("sheet(0, 2, 40)", x.sheet(0, 2, 40), 1);
        Check.due("40 CELLS", x.count(2), 40);
        Check.due("sheet(0, 0, MIN)", x.sheet(0, 0, Integer.MIN_VALUE), -14);
        Check.due("40 CELLS still", x.count(2), 40);
        Check.due("sheet(3, 1, 3)", x.sheet(3, 1, 3), 1);
        Check.due("SHEET 0 still", x.count(2), 40);
    }

    private static void lays() {
        JointMoments x = new JointMoments();
        Check.due("lay(-1, 0, 0)", x.lay(-1, 0, 0), JointMoments.BAD);
        Check.due("lay(4, 0, 0)", x.lay(4, 0, 0), JointMoments.BAD);
        Check.due("lay(0, 0, 0) of nothing", x.lay(0, 0, 0), -11);
        Check.due("lay(0, -1, 0) of nothing", x.lay(0, -1, 0), -11);
        x.sheet(0, 1, 3);
        Check.due("lay(0, 0, 1)", x.lay(0, 0, 1), 1);
        Check.due("lay(0, 2, 1)", x.lay(0, 2, 1), 1);
        Check.due("lay(0, 3, 1)", x.lay(0, 3, 1), -12);
        Check.due("lay(0, -1, 1)", x.lay(0, -1, 1), -12);
        Check.due("lay(0, MAX, 1)", x.lay(0, Integer.MAX_VALUE, 1), -12);
        x.sheet(0, 1, 0);
        Check.due("lay(0, 0, 1) without CELLS", x.lay(0, 0, 1), -12);
    }

    /** The lowest bits, with a sign: what comes back as a COUPLE tells them. */
    private static void lanes() {
        JointMoments x = Check.told(TEXT);
        int[][] rows = {
            {0, 127, 127}, {0, 128, -128}, {0, 255, -1}, {0, 256, 0}, {0, -129, 127}, {1, 9999, 9999},
            {1, 65536 - 9999, -9999}, {1, 65536 + 5, 5}, {2, -9999, -9999}, {2, 9999, 9999},
        };
        for (int[] row : rows) {
            x.sheet(2, row[0], 2);
            x.lay(2, 0, 1);
            x.lay(2, 1, row[1]);
            Check.due("read of " + row[1], x.read(2, row[0], 0, 1), 1);
            Check.due(row[1] + " on lane " + row[0], x.out(1, 0), row[2]);
        }
        x.sheet(2, 2, 2);
        x.lay(2, 1, 65536 + 5);
        Check.due("an INT is whole", x.read(2, 2, 0, 1), -20);
        x.sheet(2, 2, 2);
        Check.due("CELLS are 0", x.read(2, 2, 0, 1), 1);
        Check.due("COUPLE of 0", x.out(0, 0), 0);
    }

    private static JointMoments laid(int lane, int... cells) {
        JointMoments x = Check.told(TEXT);
        x.sheet(1, lane, cells.length);
        for (int i = 0; i < cells.length; i++) {
            Check.due("lay", x.lay(1, i, cells[i]), 1);
        }
        x.step(0);
        return x;
    }

    private static void reads() {
        JointMoments x = laid(1, 0, 11, 1, 22, 0, 33, 2, -44);
        Check.due("read(1, 1, 0, 4)", x.read(1, 1, 0, 4), 4);
        Check.due("torn()", x.torn(), 0);
        Check.due("out(0, 0): the later one", x.out(0, 0), 33);
        Check.due("out(1, 0)", x.out(1, 0), 22);
        Check.due("out(2, 0)", x.out(2, 0), -44);
        Check.due("begun anew", x.rule(4), 0);
        Check.due("OUT", x.out(0, 1), 33 - 1200);
        x = laid(1, 9, 0, 11, 1, 22, 0, 33, 2, -44);
        Check.due("read(1, 1, 3, 1)", x.read(1, 1, 3, 1), 1);
        Check.due("out(1, 0)", x.out(1, 0), 22);
        Check.due("out(0, 0) as it was", x.out(0, 0), 64);
        Check.due("out(2, 0) as it was", x.out(2, 0), 7);
        Check.due("begun anew by one", x.rule(4), 0);
        x = laid(0, new int[40]);
        Check.due("20 of them", x.read(1, 0, 0, 20), 20);
        Check.due("COUPLE of 0", x.out(0, 0), 0);
    }

    private static void refusedReads() {
        JointMoments x = laid(1, 0, 11, 3, 22, 0, 10000);
        Check.due("read(-1, 1, 0, 1)", x.read(-1, 1, 0, 1), JointMoments.BAD);
        Check.due("read(4, 1, 0, 1)", x.read(4, 1, 0, 1), JointMoments.BAD);
        Check.due("read(1, -1, 0, 1)", x.read(1, -1, 0, 1), JointMoments.BAD);
        Check.due("read(1, 3, 0, 1)", x.read(1, 3, 0, 1), JointMoments.BAD);
        Check.due("read(1, 1, 0, -1)", x.read(1, 1, 0, -1), JointMoments.BAD);
        Check.due("read(1, 1, 0, 21)", x.read(1, 1, 0, 21), JointMoments.BAD);
        Check.due("no such JOINT", x.read(1, 1, 0, 3), -21);
        Check.due("no such COUPLE", x.read(1, 1, 4, 1), -20);
        Check.due("none came", x.out(0, 0), 64);
        Check.due("STEPS as they were", x.rule(4), 1);
        Check.due("MOMENT as it was", x.moment(0, 1), -64);
        Check.due("refused ahead of the end", x.read(1, 1, 0, 20), -21);
        x = laid(2, -1, 0);
        Check.due("below 0", x.read(1, 2, 0, 1), -20);
        x = laid(2, 0, Integer.MIN_VALUE);
        Check.due("far below 0", x.read(1, 2, 0, 1), -20);
        x = laid(1, 0, 1, 1, 2, 2, 3, 0, 4, 1, 5, 5, 6);
        Check.due("the 5th", x.read(1, 1, 0, 6), -25);
    }

    private static void machineFaults() {
        JointMoments x = laid(1, 0, 11, 1, 22, 5);
        Check.due("read behind the end", x.read(1, 1, 0, 3), 2);
        Check.due("torn() INDEX", x.torn(), 2);
        Check.due("those ahead came", x.out(1, 0), 22);
        Check.due("begun anew", x.rule(4), 0);
        x.step(0);
        Check.due("half of one, no such JOINT", x.read(1, 1, 4, 1), 0);
        Check.due("torn() INDEX", x.torn(), 2);
        Check.due("none came: STEPS", x.rule(4), 1);
        Check.due("BAD leaves it", x.read(1, 1, 0, 21), JointMoments.BAD);
        Check.due("torn() still", x.torn(), 2);
        Check.due("another lane", x.read(1, 2, 0, 1), 0);
        Check.due("torn() CAST", x.torn(), 3);
        Check.due("another lane, out of it", x.read(1, 0, -1, 1), 0);
        Check.due("torn() CAST first", x.torn(), 3);
        Check.due("refused leaves it", x.read(1, 1, 2, 0), 0);
        Check.due("torn() of none", x.torn(), 0);
        Check.due("nothing", x.read(0, 1, -1, 1), 0);
        Check.due("torn() NULL first", x.torn(), 1);
        x.lay(1, 1, 10000);
        Check.due("one refused", x.read(1, 1, 0, 3), -20);
        Check.due("torn() as it was", x.torn(), 1);
        Check.due("f below 0", x.read(1, 1, -1, 1), 0);
        Check.due("torn() INDEX", x.torn(), 2);
        Check.due("f far below 0", x.read(1, 1, Integer.MIN_VALUE, 20), 0);
        Check.due("f far above", x.read(1, 1, Integer.MAX_VALUE, 20), 0);
        Check.due("torn() INDEX", x.torn(), 2);
        Check.due("a whole one", x.read(1, 1, 2, 1), 1);
        Check.due("torn() of a whole one", x.torn(), 0);
    }

    private static void nothingIsRead() {
        JointMoments x = laid(1, 9, 9);
        x.read(0, 0, 0, 1);
        Check.due("torn() NULL", x.torn(), 1);
        Check.due("n 0 of nothing", x.read(0, 0, 0, 0), 0);
        Check.due("torn() of n 0", x.torn(), 0);
        Check.due("n 0 of another lane", x.read(1, 0, -5, 0), 0);
        Check.due("torn() of n 0", x.torn(), 0);
        Check.due("STEPS as they were", x.rule(4), 1);
    }

    private static void counts() {
        JointMoments x = Check.told("turn 0;hold 0;turn 5;hold 1;turn 0;beam 3 1 12 1;");
        Check.due("count(-1)", x.count(-1), JointMoments.BAD);
        Check.due("count(4)", x.count(4), JointMoments.BAD);
        Check.due("count(3)", x.count(3), 3);
        x.keep(1);
        Check.due("count(0)", x.count(0), 1);
        x.keep(0);
        Check.due("count(0)", x.count(0), 2);
        x.keep(0);
        Check.due("count(0)", x.count(0), 2);
        Check.feed(x, "abc");
        Check.due("count(1)", x.count(1), 3);
        x.sheet(1, 0, 5);
        Check.due("count(2) of nothing", x.count(2), JointMoments.NONE);
        x.sheet(0, 0, 5);
        Check.due("count(2)", x.count(2), 5);
    }
}
