/** The Terms about answers: what each of them is, which comes first, that a refused call changes nothing. */
final class AnswerEdges {
    private static final int BAD = Run.BAD, STATE = Run.STATE, FULL = Run.FULL, NONE = Run.NONE;
    private static final int NOTHING = Run.NOTHING, MIN = Run.MIN, MAX = Run.MAX;

    private AnswerEdges() {
    }

    static void all() {
        Edge.terms("Answers: BAD -1 (a number is not as told, there is no such JOINT, BEAM, END, LOAD, IMAGE, SHEET), "
            + "STATE -2 (as told), FULL -3, NONE -4 (there is none)", AnswerEdges::constants);
        Edge.terms("the first that fits", AnswerEdges::first);
        String unchanged = "what is refused changes nothing (but THE TAPE, as told)";
        Edge.terms(unchanged, AnswerEdges::refusedQuestions);
        Edge.terms(unchanged, AnswerEdges::refusedTape);
        Edge.terms(unchanged, AnswerEdges::refusedText);
        Edge.terms(unchanged, AnswerEdges::refusedSteps);
        Edge.terms(unchanged, AnswerEdges::refusedChanges);
        Edge.terms(unchanged, AnswerEdges::refusedLoads);
        Edge.terms(unchanged, AnswerEdges::refusedImages);
        Edge.terms(unchanged, AnswerEdges::refusedSheets);
        Edge.terms(unchanged, AnswerEdges::refusedReads);
    }

    private static void constants() {
        Check.due("BAD", JointMoments.BAD, -1);
        Check.due("STATE", JointMoments.STATE, -2);
        Check.due("FULL", JointMoments.FULL, -3);
        Check.due("NONE", JointMoments.NONE, -4);
        Check.due("NOTHING", JointMoments.NOTHING, 2000000000);
        Busy.run().due(-1, "joint", 6, 0).due(-1, "beam", 3, 0).due(-1, "load", 2, 0).due(-1, "keep", 2)
            .due(-1, "lay", 4, 0, 0).due(2000000000, "moment", 6, 0).due(-2, "step", 2).due(-3, "hold", 2, 0)
            .due(-4, "at", 0, 1);
    }

    private static void first() {
        Run full = new Run().feed(" ".repeat(320));
        full.due(BAD, "feed", 128).due(BAD, "feed", -1).due(FULL, "feed", 127);
        Busy.run().due(BAD, "hold", 6, 0).due(BAD, "hold", 2, 2).due(FULL, "hold", 2, 0).due(BAD, "step", 6)
            .due(BAD, "back", 2).due(STATE, "back", 1).due(BAD, "sheet", 4, 0, -1).due(BAD, "sheet", 0, 3, -1)
            .due(-14, "sheet", 3, 2, -1).due(BAD, "lay", 4, -1, 0).due(BAD, "read", 3, 3, 0, 1)
            .due(BAD, "at", 6, 0).due(BAD, "at", 6, 9).due(BAD, "at", 3, -1).due(NONE, "at", 3, 0);
        Run loaded = eightLoads();
        loaded.due(BAD, "put", 0, 1, 12).due(BAD, "put", 1, 1, 0).due(BAD, "put", 0, 0, 0).due(BAD, "put", 0, 100, 0)
            .due(BAD, "put", 0, 1000, 1).due(FULL, "put", 0, 1, 0);
        Run.told("turn 1;").due(BAD, "fall", 1, 0).due(BAD, "fall", 1, 9).due(STATE, "fall", 1, 1)
            .due(BAD, "rank", -1).due(NONE, "rank", 0).due(BAD, "next", 2).due(NONE, "next", 1);
    }

    private static Run eightLoads() {
        Run r = Run.told("turn 9;hold 0;beam 0 1 12 1;" + "all 0 1;".repeat(7) + "point 0 5 5;");
        return r.due(1, "step", 0);
    }

    private static void refusedQuestions() {
        Busy.refuses(BAD, "rule", 8);
        Busy.refuses(BAD, "joint", 6, 0);
        Busy.refuses(NOTHING, "out", 6, 0);
        Busy.refuses(BAD, "at", 6, 0);
        Busy.refuses(NONE, "at", 3, 0);
        Busy.refuses(BAD, "beam", 3, 0);
        Busy.refuses(BAD, "load", 2, 0);
        Busy.refuses(NOTHING, "moment", 6, 0);
        Busy.refuses(NOTHING, "share", 6, 0);
        Busy.refuses(NOTHING, "share", 3, 0);
        Busy.refuses(BAD, "rank", -1);
        Busy.refuses(NONE, "rank", 6);
        Busy.refuses(BAD, "next", 2);
        Busy.refuses(BAD, "count", 4);
    }

    private static void refusedTape() {
        for (int c : new int[] {-1, 128, MIN, MAX}) {
            Busy.refuses(BAD, "feed", c);
        }
        for (int n : new int[] {-1, 15, MIN, MAX}) {
            Busy.refuses(BAD, "end", n);
        }
        new Run().feed("hold 3;" + " ".repeat(313)).due(FULL, "feed", ';').due(320, "count", 1).due(1, "text")
            .due(0, "fault").due(1, "rule", 0).due(3, "out", 0, 0);
    }

    /** A FAULT takes THE TAPE and tells fault(), and that is all. */
    private static void refusedText() {
        Busy.run().feed("turn").due(-28, "text").due(2, "fault").due(0, "count", 1);
        Busy.same("a text with a FAULT", Busy::run, r -> r.refuses("&", 1, 14),
            r -> r.due(14, "end", 0).due(1, "fault"));
    }

    private static void refusedSteps() {
        for (int j : new int[] {-1, 6, MIN, MAX}) {
            Busy.refuses(BAD, "step", j);
        }
        Busy.refuses(STATE, "step", 2);
        Busy.refuses(STATE, "step", 3);
        Busy.refuses(STATE, "step", 5);
        int[][] wrong = {{-1, 1}, {2, 1}, {0, 0}, {1, 0}, {0, 201}, {1, 201}, {1, -1}, {0, MIN}, {0, MAX}, {MAX, 1}};
        for (int[] args : wrong) {
            Busy.refuses(BAD, "sweep", args);
        }
    }

    private static void refusedChanges() {
        int[][] couples = {{-1, 0}, {6, 0}, {0, 10000}, {0, -10000}, {MIN, 0}, {MAX, 0}, {1, MIN}, {1, MAX}};
        for (int[] args : couples) {
            Busy.refuses(BAD, "couple", args);
        }
        int[][] holds = {{-1, 0}, {6, 0}, {-1, 1}, {6, 1}, {0, -1}, {0, 2}, {2, MIN}, {2, MAX}};
        for (int[] args : holds) {
            Busy.refuses(BAD, "hold", args);
        }
        Busy.refuses(FULL, "hold", 2, 0);
        Busy.refuses(FULL, "hold", 5, 0);
        int[][] stiffs = {{-1, 1}, {3, 1}, {0, 0}, {0, 11}, {2, -1}, {2, MIN}, {2, MAX}, {MIN, 1}, {MAX, 1}};
        for (int[] args : stiffs) {
            Busy.refuses(BAD, "stiffen", args);
        }
    }

    private static void refusedLoads() {
        int[][] puts = {{-1, 1, 0}, {3, 1, 0}, {0, 0, 0}, {0, 100, 0}, {0, -1, 0}, {0, 0, 1}, {0, 1000, 1}, {0, 1, -1},
            {0, 1, 12}, {1, 1, 4}, {2, 1, 6}, {0, 1, MIN}, {0, 1, MAX}, {0, MIN, 1}, {0, MAX, 1}, {MIN, 1, 1}};
        for (int[] args : puts) {
            Busy.refuses(BAD, "put", args);
        }
        Busy.refuses(AnswerEdges::eightLoads, FULL, "put", 0, 1, 0);
        Busy.refuses(AnswerEdges::eightLoads, FULL, "put", 0, 999, 11);
        for (int i : new int[] {-1, 2, MIN, MAX}) {
            Busy.refuses(BAD, "lift", i);
        }
        for (int n : new int[] {0, 9, -1, MIN, MAX}) {
            Busy.refuses(BAD, "fall", 1, n);
        }
        Busy.refuses(() -> Run.told("turn 5;hold 6;"), STATE, "fall", 1, 1);
        Busy.refuses(Run::new, STATE, "fall", 1, 8);
        Busy.refuses(AnswerEdges::eightLoads, 0, "fall", 1, 8);
    }

    private static void refusedImages() {
        for (int k : new int[] {-1, 2, MIN, MAX}) {
            Busy.refuses(BAD, "keep", k);
            Busy.refuses(BAD, "back", k);
        }
        Busy.refuses(STATE, "back", 1);
    }

    private static void refusedSheets() {
        int[][] wrong = {{-1, 0, 1}, {4, 0, 1}, {0, -1, 1}, {0, 3, 1}, {0, 0, 41}, {3, 0, 41}, {0, 0, MAX}, {4, 0, -1}};
        for (int[] args : wrong) {
            Busy.refuses(BAD, "sheet", args);
        }
        Busy.refuses(-14, "sheet", 0, 0, -1);
        Busy.refuses(-14, "sheet", 3, 1, -1);
        Busy.refuses(-14, "sheet", 2, 2, MIN);
        Busy.refuses(BAD, "lay", -1, 0, 1);
        Busy.refuses(BAD, "lay", 4, 0, 1);
        Busy.refuses(-11, "lay", 3, 0, 1);
        Busy.refuses(-11, "lay", 3, -1, 1);
        for (int i : new int[] {-1, 4, 40, MIN, MAX}) {
            Busy.refuses(-12, "lay", 0, i, 1);
        }
    }

    private static void refusedReads() {
        int[][] wrong = {{-1, 0, 0, 1}, {4, 0, 0, 1}, {0, -1, 0, 1}, {0, 3, 0, 1}, {0, 0, 0, -1}, {0, 0, 0, 21},
            {0, 0, 0, MIN}, {0, 0, 0, MAX}, {-1, 0, 0, 0}, {4, 0, 0, 0}, {0, 3, 0, 0}};
        for (int[] args : wrong) {
            Busy.refuses(BAD, "read", args);
        }
        Busy.refuses(-22, "read", 2, 2, 0, 4);
        Busy.refuses(-20, "read", 2, 2, 4, 1);
        Busy.refuses(-20, "read", 2, 2, 6, 1);
        Busy.refuses(-20, "read", 2, 2, 6, 20);
    }
}
