/** Promises 25 to 31, and the Terms about SHEETS. */
final class SheetEdges {
    private static final int BAD = Run.BAD, STATE = Run.STATE, NONE = Run.NONE, MIN = Run.MIN, MAX = Run.MAX;
    private static final String TEXT = "turn 64;turn 0;hold 7;beam 0 1 12 1;beam 1 2 4 3;all 0 1;";

    private SheetEdges() {
    }

    static void all() {
        terms();
        keep();
        back();
        sheet();
        lay();
        read();
        readFaults();
        readRefused();
        torn();
        count();
    }

    private static Run laid(int lane, int... cells) {
        Run r = Run.told(TEXT);
        Busy.sheet(r, 1, lane, cells);
        return r.due(1, "step", 0);
    }

    private static void terms() {
        Edge.terms("SHEETS 0 to 3 are rows of BYTES (lane 0), SHORTS (1), INTS (2), all with a sign, "
            + "with 0 to 40 CELLS, or nothing (at first).", () -> {
            for (int k = 0; k < 4; k++) {
                for (int lane = 0; lane < 3; lane++) {
                    Run.told(TEXT).due(-11, "lay", k, 0, 0).due(1, "sheet", k, lane, 40).due(1, "lay", k, 39, -1)
                        .due(-12, "lay", k, 40, 0).due(1, "lay", k, 38, 2).due(1, "read", k, lane, 38, 1)
                        .due(-1, "out", 2, 0).due(1, "sheet", k, lane, 0).due(-12, "lay", k, 0, 0)
                        .due(0, "read", k, lane, 0, 1).due(2, "torn");
                }
            }
            new Run().due(BAD, "sheet", 4, 0, 1).due(BAD, "sheet", -1, 0, 1).due(BAD, "sheet", 0, 3, 1)
                .due(BAD, "sheet", 0, -1, 1).due(BAD, "sheet", 0, 0, 41);
        });
        Edge.terms("A FAULT is what the machine finds: 1 NULL (nothing), 2 INDEX, 3 CAST (another lane), "
            + "4 SIZE (below 0).", () -> {
            Run r = laid(1, 0, 5).due(0, "read", 0, 1, 0, 1).due(1, "torn").due(0, "read", 1, 1, 2, 1).due(2, "torn")
                .due(0, "read", 1, 0, 0, 1).due(3, "torn").due(0, "read", 1, 2, 0, 1).due(3, "torn");
            r.due(-11, "lay", 0, 0, 0).due(-12, "lay", 1, 2, 0).due(-14, "sheet", 1, 1, -1);
            // Nothing is of no lane: NULL; another lane is found ahead of the CELL.
            r.due(0, "read", 0, 2, -1, 1).due(1, "torn").due(0, "read", 1, 0, 99, 1).due(3, "torn");
        });
    }

    private static void keep() {
        Edge.promise(25, "IMAGE k (0, 1) is JOINTS, BEAMS, LOADS: whether there was one (1, 0).", () ->
            Run.told(TEXT).due(0, "keep", 1).due(1, "keep", 1).due(0, "keep", 0).due(1, "keep", 0).due(1, "keep", 1)
                .due(2, "count", 0).due(1, "couple", 0, 1).due(0, "hold", 0, 1).due(3, "stiffen", 1, 9)
                .due(2, "put", 1, 5, 2).due(1, "keep", 1).due(3, "back", 0).due(64, "out", 0, 0).due(0, "joint", 0, 0)
                .due(3, "beam", 1, 3).due(1, "rule", 3).due(3, "back", 1).due(1, "out", 0, 0).due(1, "joint", 0, 0)
                .due(9, "beam", 1, 3).row("load", 1, 1, 1, 5, 2).takes("").due(0, "keep", 0).due(0, "keep", 1));
        Edge.promise(25, "BAD.", () ->
            Run.told(TEXT).due(BAD, "keep", -1).due(BAD, "keep", 2).due(BAD, "keep", MIN).due(BAD, "keep", MAX)
                .due(0, "count", 0));
    }

    private static void back() {
        Edge.promise(26, "All is as IMAGE k (begun anew): JOINTS.", () -> {
            Run.told(TEXT).due(1, "step", 0).due(0, "keep", 0).due(1, "rule", 4).due(3, "back", 0).anew()
                .due(1, "stiffen", 0, 4).due(0, "lift", 0).due(3, "back", 0).due(1, "beam", 0, 3).due(1, "rule", 3)
                .moments(-1200, 1200, 0, 0).due(1, "stiffen", 0, 5).due(3, "back", 0).due(1, "beam", 0, 3)
                .due(1, "count", 0);
            // As many LOADS as in the IMAGE, but all of them others.
            Run.told(TEXT).due(0, "keep", 0).due(0, "lift", 0).due(1, "put", 1, 77, 3).due(0, "keep", 1)
                .due(0, "lift", 0).due(1, "put", 0, 5, 2).due(3, "back", 0).row("load", 0, 0, 0, 1, NONE)
                .moments(-1200, 1200, 0, 0).due(3, "back", 1).row("load", 0, 1, 1, 77, 3).due(0, "moment", 0, 0)
                .due(-1443, "moment", 2, 1);
            // An IMAGE of nothing is one, too.
            new Run().due(0, "keep", 1).due(0, "back", 1).due(0, "rule", 0);
        });
        Edge.promise(26, "BAD;", () ->
            Run.told(TEXT).due(0, "keep", 0).due(0, "keep", 1).due(BAD, "back", -1).due(BAD, "back", 2)
                .due(BAD, "back", MIN).due(BAD, "back", MAX));
        Edge.promise(26, "STATE: there is none.", () ->
            Run.told(TEXT).due(STATE, "back", 0).due(STATE, "back", 1).due(0, "keep", 1).due(STATE, "back", 0)
                .due(3, "back", 1).takes("hold 0;").due(STATE, "back", 1));
    }

    private static void sheet() {
        Edge.promise(27, "A SHEET is a new row of CELLS 0: 1.", () ->
            Run.told(TEXT).due(1, "sheet", 0, 0, 0).due(0, "count", 2).due(1, "sheet", 0, 2, 40).due(40, "count", 2)
                .due(1, "lay", 0, 0, 1).due(1, "lay", 0, 1, 55).due(1, "lay", 0, 39, 5).due(1, "sheet", 0, 2, 2)
                .due(2, "count", 2).due(1, "read", 0, 2, 0, 1).due(0, "out", 0, 0).due(0, "out", 1, 0)
                .due(-12, "lay", 0, 2, 0).due(1, "sheet", 0, 1, 40).due(20, "read", 0, 1, 0, 20)
                .due(0, "read", 0, 2, 0, 1).due(3, "torn").due(-11, "lay", 1, 0, 0).due(1, "sheet", 3, 0, 1)
                .due(40, "count", 2));
        Edge.promise(27, "BAD: also n above 40;", () ->
            new Run().due(BAD, "sheet", 0, 0, 41).due(BAD, "sheet", 0, 0, MAX).due(BAD, "sheet", -1, 0, 1)
                .due(BAD, "sheet", 4, 0, 1).due(BAD, "sheet", MIN, 0, 1).due(BAD, "sheet", MAX, 0, 1)
                .due(BAD, "sheet", 0, -1, 1).due(BAD, "sheet", 0, 3, 1).due(BAD, "sheet", 0, MIN, 1)
                .due(BAD, "sheet", 0, MAX, 1).due(BAD, "sheet", 4, 0, -1).due(BAD, "sheet", 0, 3, -1)
                .due(NONE, "count", 2).due(1, "sheet", 0, 0, 40).due(40, "count", 2));
        Edge.promise(27, "-14 (SIZE): n below 0.", () ->
            new Run().due(-14, "sheet", 0, 0, -1).due(-14, "sheet", 3, 2, MIN).due(NONE, "count", 2)
                .due(1, "sheet", 0, 1, 3).due(-14, "sheet", 0, 0, -1).due(3, "count", 2));
    }

    private static void lay() {
        Edge.promise(28, "CELL i of a SHEET becomes v (its lowest bits): 1.", () -> {
            int[][] rows = {
                {0, 127, 127}, {0, 128, -128}, {0, 255, -1}, {0, 256, 0}, {0, -128, -128}, {0, -129, 127},
                {0, MAX, -1}, {0, MIN, 0}, {1, 9999, 9999}, {1, 65535, -1}, {1, 65536, 0}, {1, 65536 - 9999, -9999},
                {1, -65536 + 7, 7}, {1, MAX, -1}, {1, MIN, 0}, {2, -9999, -9999}, {2, 9999, 9999},
            };
            for (int[] row : rows) {
                Run.told(TEXT).due(1, "sheet", 2, row[0], 2).due(1, "lay", 2, 0, 1).due(1, "lay", 2, 1, row[1])
                    .due(1, "read", 2, row[0], 0, 1).due(row[2], "out", 1, 0);
            }
            // What does not fit a COUPLE is told by its refusal.
            int[][] wide = {{1, 32767}, {1, 32768}, {1, 10000}, {2, 65536}, {2, 256}, {2, MIN}, {2, MAX}, {2, 10000}};
            for (int[] row : wide) {
                Run.told(TEXT).due(1, "sheet", 2, row[0], 2).due(1, "lay", 2, 1, row[1])
                    .due(row[1] == 256 ? 1 : -20, "read", 2, row[0], 0, 1);
            }
        });
        Edge.promise(28, "BAD: k;", () ->
            new Run().due(BAD, "lay", -1, 0, 0).due(BAD, "lay", 4, 0, 0).due(BAD, "lay", MIN, 0, 0)
                .due(BAD, "lay", MAX, 0, 0).due(BAD, "lay", 4, -1, 0));
        Edge.promise(28, "-10 less the FAULT: NULL, INDEX.", () -> {
            Run r = new Run().due(-11, "lay", 0, 0, 0).due(-11, "lay", 0, -1, 0).due(-11, "lay", 0, MAX, 0);
            r.due(1, "sheet", 0, 1, 3).due(1, "lay", 0, 0, 0).due(1, "lay", 0, 2, 0).due(-12, "lay", 0, 3, 0)
                .due(-12, "lay", 0, -1, 0).due(-12, "lay", 0, MIN, 0).due(-12, "lay", 0, MAX, 0)
                .due(-11, "lay", 1, 0, 0).due(1, "sheet", 0, 1, 0).due(-12, "lay", 0, 0, 0).due(0, "torn");
        });
    }

    private static void read() {
        Edge.promise(29, "n (0 to 20) times a JOINT, a COUPLE are read of a SHEET taken as of a lane, "
            + "two CELLS each from CELL f on, one behind another as by couple(): how many came.", () -> {
            laid(1, 0, 11, 1, 22, 0, 33, 2, -44).due(4, "read", 1, 1, 0, 4).due(0, "torn").due(33, "out", 0, 0)
                .due(22, "out", 1, 0).due(-44, "out", 2, 0).anew().due(33 - 1200, "out", 0, 1);
            laid(2, 9, 0, 11, 1, 9999, 2, -9999).due(1, "read", 1, 2, 3, 1).due(9999, "out", 1, 0).due(64, "out", 0, 0)
                .due(2, "read", 1, 2, 3, 2).due(-9999, "out", 2, 0).due(0, "torn");
            Run r = Run.told(TEXT).due(1, "sheet", 1, 0, 40);
            for (int i = 0; i < 40; i += 2) {
                r.due(1, "lay", 1, i, i / 2 % 3).due(1, "lay", 1, i + 1, i);
            }
            r.due(20, "read", 1, 0, 0, 20).due(0, "torn").due(36, "out", 0, 0).due(38, "out", 1, 0)
                .due(34, "out", 2, 0).due(1, "read", 1, 0, 38, 1).due(0, "torn");
        });
        Edge.promise(29, "of n 0: 0, no FAULT, whatever the SHEET is).", () ->
            laid(1, 9, 9).due(0, "read", 0, 0, 0, 1).due(1, "torn").due(0, "read", 0, 0, 0, 0).due(0, "torn")
                .due(0, "read", 1, 0, 0, 1).due(3, "torn").due(0, "read", 1, 0, 0, 0).due(0, "torn")
                .due(0, "read", 1, 1, 2, 1).due(2, "torn").due(0, "read", 1, 1, 2, 0).due(0, "torn")
                .due(0, "read", 1, 1, MIN, 0).due(0, "read", 1, 1, MAX, 0).due(0, "read", 1, 1, 0, 0)
                .due(1, "rule", 4).due(64, "out", 0, 0));
    }

    private static void readFaults() {
        Edge.promise(29, "What the machine refuses: those that were whole ahead came (its FAULT is asked by torn();", () -> {
            laid(1, 0, 11, 1, 22, 5).due(2, "read", 1, 1, 0, 3).due(2, "torn").due(11, "out", 0, 0)
                .due(22, "out", 1, 0).anew();
            laid(1, 0, 11, 1, 22).due(2, "read", 1, 1, 0, 20).due(2, "torn").due(22, "out", 1, 0);
            // One of which the second CELL is not there is not whole, whatever its JOINT is.
            laid(1, 0, 11, 5).due(0, "read", 1, 1, 2, 1).due(2, "torn").due(1, "rule", 4);
            laid(1, 0, 11, 1).due(0, "read", 1, 1, 2, 1).due(2, "torn").due(0, "out", 1, 0);
            laid(1, 0, 11).due(0, "read", 1, 1, -1, 2).due(2, "torn").due(0, "read", 1, 1, -2, 2).due(2, "torn")
                .due(64, "out", 0, 0).due(0, "read", 1, 1, MIN, 20).due(2, "torn").due(0, "read", 1, 1, MAX, 20)
                .due(2, "torn").due(0, "read", 1, 1, MAX - 1, 20).due(2, "torn").due(0, "read", 1, 1, 2, 1)
                .due(2, "torn").due(0, "read", 1, 1, 1, 1).due(2, "torn").due(1, "rule", 4);
            laid(1, 0, 11).due(0, "read", 1, 2, 0, 1).due(3, "torn").due(0, "read", 1, 0, 0, 1).due(3, "torn")
                .due(0, "read", 2, 1, 0, 1).due(1, "torn").due(64, "out", 0, 0).due(1, "rule", 4)
                .due(1, "read", 1, 1, 0, 1).due(0, "torn").due(11, "out", 0, 0);
        });
        Edge.promise(29, "BAD: k, lane, n;", () ->
            laid(1, 0, 11).due(BAD, "read", -1, 1, 0, 1).due(BAD, "read", 4, 1, 0, 1).due(BAD, "read", MIN, 1, 0, 1)
                .due(BAD, "read", MAX, 1, 0, 1).due(BAD, "read", 1, -1, 0, 1).due(BAD, "read", 1, 3, 0, 1)
                .due(BAD, "read", 1, MIN, 0, 1).due(BAD, "read", 1, MAX, 0, 1).due(BAD, "read", 1, 1, 0, -1)
                .due(BAD, "read", 1, 1, 0, 21).due(BAD, "read", 1, 1, 0, MIN).due(BAD, "read", 1, 1, 0, MAX)
                .due(BAD, "read", 4, 1, 0, 0).due(BAD, "read", 1, 3, 0, 0).due(BAD, "read", 3, 3, 0, 1)
                .due(BAD, "read", 3, 0, 0, 21).due(64, "out", 0, 0).due(1, "rule", 4));
    }

    private static void readRefused() {
        Edge.promise(29, "-20 less i (0 on): the i-th, whole, is refused by couple(): "
            + "then none came (MOMENTS, STEPS are as they were);", () -> {
            laid(1, 3, 5).due(-20, "read", 1, 1, 0, 1).due(1, "rule", 4);
            laid(1, -1, 5).due(-20, "read", 1, 1, 0, 1);
            laid(1, 0, 10000).due(-20, "read", 1, 1, 0, 1);
            laid(1, 0, -10000).due(-20, "read", 1, 1, 0, 1);
            laid(2, MIN, 0).due(-20, "read", 1, 2, 0, 1);
            laid(2, MAX, 0).due(-20, "read", 1, 2, 0, 1);
            laid(2, 0, MIN).due(-20, "read", 1, 2, 0, 1);
            laid(2, 0, MAX).due(-20, "read", 1, 2, 0, 1);
            laid(1, 0, 11, 1, 22, 0, 10000).due(-22, "read", 1, 1, 0, 3).due(64, "out", 0, 0).due(0, "out", 1, 0)
                .due(1, "rule", 4).due(0, "rule", 7).due(-1200 + 1136, "moment", 0, 1);
            int[] cells = new int[40];
            cells[39] = 10000;
            laid(1, cells).due(-39, "read", 1, 1, 0, 20).due(64, "out", 0, 0).due(19, "read", 1, 1, 0, 19);
        });
        Edge.promise(29, "the first met.", () -> {
            laid(1, 0, 10000, 3, 0).due(-20, "read", 1, 1, 0, 2).due(-20, "read", 1, 1, 2, 1);
            laid(1, 0, 1, 3, 0, 0, 10000).due(-21, "read", 1, 1, 0, 3);
            // Refused ahead of where the machine would find a FAULT; a FAULT ahead of all else.
            laid(1, 0, 1, 3, 0, 0).due(-21, "read", 1, 1, 0, 3).due(0, "torn").due(64, "out", 0, 0);
            laid(1, 3, 0).due(0, "read", 1, 0, 0, 1).due(3, "torn");
            laid(1, 3, 0).due(0, "read", 1, 1, -1, 2).due(2, "torn");
        });
    }

    private static void torn() {
        Edge.promise(30, "The FAULT of the latest read() that answered 0 or more; 0", () ->
            laid(1, 0, 11, 1).due(0, "torn").due(1, "read", 1, 1, 0, 2).due(2, "torn").due(2, "torn")
                .due(1, "read", 1, 1, 0, 1).due(0, "torn").due(0, "read", 1, 2, 0, 1).due(3, "torn")
                .due(-12, "lay", 1, 9, 0).due(-14, "sheet", 0, 0, -1).due(3, "torn").takes("hold 0;").due(3, "torn")
                .due(0, "read", 0, 2, 0, 1).due(1, "torn").due(0, "read", 0, 2, 0, 0).due(0, "torn"));
        Edge.promise(30, "(one that is refused leaves it).", () ->
            laid(1, 0, 10000, 1).due(0, "read", 0, 2, 0, 1).due(1, "torn").due(-20, "read", 1, 1, 0, 1).due(1, "torn")
                .due(-20, "read", 1, 1, 0, 2).due(1, "torn").due(BAD, "read", 1, 1, 0, 21).due(1, "torn")
                .due(BAD, "read", 4, 1, 0, 0).due(1, "torn").due(BAD, "read", 1, 3, 0, 0).due(1, "torn"));
    }

    private static void count() {
        Edge.promise(31, "How many: 0 IMAGES, 1 bytes on THE TAPE, 2 CELLS of SHEET 0 (NONE: nothing), "
            + "3 JOINTS without ENDS.", () -> {
            Run.told("turn 0;hold 0;turn 5;hold 1;turn 0;beam 3 1 12 1;").due(0, "count", 0).due(0, "keep", 1)
                .due(1, "count", 0).due(0, "keep", 0).due(2, "count", 0).due(1, "keep", 0).due(2, "count", 0)
                .due(0, "count", 1).feed("abc").due(3, "count", 1).due(3, "end", 1).due(1, "count", 1)
                .due(NONE, "count", 2).due(1, "sheet", 1, 0, 5).due(NONE, "count", 2).due(1, "sheet", 0, 0, 0)
                .due(0, "count", 2).due(1, "sheet", 0, 2, 40).due(40, "count", 2).due(3, "count", 3);
            new Run().feed(" ".repeat(320)).due(320, "count", 1);
            Run.told("hold 0;".repeat(6)).due(6, "count", 3).takes("hold 0;hold 0;beam 0 1 1 1;").due(0, "count", 3);
        });
        Edge.promise(31, "BAD.", () ->
            Run.told(TEXT).due(BAD, "count", -1).due(BAD, "count", 4).due(BAD, "count", MIN).due(BAD, "count", MAX));
    }
}
