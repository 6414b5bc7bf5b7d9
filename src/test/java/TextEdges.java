/** Promises 1 to 5, and the Terms about THE TAPE, the text and its FAULTS. */
final class TextEdges {
    private static final int BAD = Run.BAD, STATE = Run.STATE, FULL = Run.FULL, NONE = Run.NONE;
    private static final int NOTHING = Run.NOTHING, MIN = Run.MIN, MAX = Run.MAX;
    private static final String TWO = "hold 0;hold 0;";

    private TextEdges() {
    }

    static void all() {
        newObject();
        feed();
        end();
        text();
        fault();
        tape();
        tokens();
        lines();
        faultsOfTokens();
        faultsOfNumbers();
        faultsOfSums();
        whatIsTaken();
    }

    private static void newObject() {
        Edge.promise(1, "No JOINTS", () -> {
            new Run().due(0, "rule", 0).due(0, "rule", 1).due(0, "rule", 2).due(0, "rule", 3).due(0, "rule", 4)
                .due(0, "rule", 5).due(0, "rule", 6).due(NONE, "rule", 7).due(BAD, "joint", 0, 0)
                .due(NOTHING, "out", 0, 0).due(BAD, "at", 0, 0).due(BAD, "beam", 0, 0).due(BAD, "load", 0, 0)
                .due(NOTHING, "moment", 0, 0).due(NOTHING, "share", 0, 0).due(NONE, "rank", 0).due(NONE, "next", 0)
                .due(NONE, "next", 1).due(BAD, "step", 0).due(0, "sweep", 0, 200).due(0, "sweep", 1, 1)
                .due(0, "begin").due(BAD, "couple", 0, 0).due(BAD, "hold", 0, 1).due(BAD, "stiffen", 0, 1)
                .due(BAD, "put", 0, 1, 0).due(BAD, "lift", 0).due(STATE, "fall", 1, 1).due(STATE, "back", 0)
                .due(STATE, "back", 1).due(0, "count", 0).due(0, "count", 1).due(0, "count", 3).due(0, "fault")
                .due(0, "keep", 0).due(0, "back", 0).due(1, "count", 0);
        });
        Edge.promise(1, "SHEETS have nothing.", () -> {
            new Run().due(NONE, "count", 2).due(0, "torn").due(-11, "lay", 0, 0, 0).due(-11, "lay", 1, 0, 0)
                .due(-11, "lay", 2, 0, 0).due(-11, "lay", 3, 0, 0).due(0, "read", 0, 0, 0, 1).due(1, "torn");
        });
    }

    private static void feed() {
        Edge.promise(2, "A byte (0 to 127) comes behind THE TAPE: how many it has.", () -> {
            new Run().due(1, "feed", 0).due(2, "feed", 127).due(3, "feed", 32).due(3, "count", 1);
            for (int c = 0; c < 128; c++) {
                Run r = new Run().due(1, "feed", c);
                boolean name = c >= 'a' && c <= 'z';
                boolean token = name || c >= '0' && c <= '9' || c == '-' || c == ';';
                r.due(c == ' ' ? 0 : -10, "text").due(c == ' ' ? 0 : token ? 2 : 1, "fault");
            }
        });
        Edge.promise(2, "BAD;", () -> {
            new Run().due(BAD, "feed", -1).due(BAD, "feed", 128).due(BAD, "feed", 255).due(BAD, "feed", 256 + 'a')
                .due(BAD, "feed", MIN).due(BAD, "feed", MAX).due(0, "count", 1);
        });
        Edge.promise(2, "FULL: more than 320.", () -> {
            Run r = new Run();
            for (int n = 1; n <= 320; n++) {
                r.due(n, "feed", ' ');
            }
            r.due(FULL, "feed", ' ').due(FULL, "feed", 0).due(320, "count", 1).due(320, "end", 319)
                .due(320, "feed", ';').due(FULL, "feed", ';').due(-329, "text").due(2, "fault").due(1, "feed", ' ');
        });
    }

    private static void end() {
        Edge.promise(3, "THE TAPE keeps its first n bytes: how many it had.", () -> {
            new Run().due(0, "end", 0).feed("hold 1;hold 2;@").due(15, "end", 15).due(15, "end", 14).due(14, "count", 1)
                .due(14, "end", 7).due(7, "count", 1).due(8, "feed", ' ').due(1, "text").due(1, "out", 0, 0)
                .feed("abc").due(3, "end", 0).due(0, "end", 0).due(0, "text").due(0, "fault");
        });
        Edge.promise(3, "BAD (n above that, too).", () -> {
            new Run().due(BAD, "end", 1).due(BAD, "end", -1).feed("hold 1;").due(BAD, "end", 8).due(BAD, "end", 320)
                .due(BAD, "end", MAX).due(BAD, "end", -1).due(BAD, "end", MIN).due(7, "count", 1).due(7, "end", 5)
                .due(BAD, "end", 6).due(BAD, "end", 7);
        });
    }

    private static void text() {
        Edge.promise(4, "THE TAPE (empty then, by a FAULT, too) tells all: how many lines", () -> {
            new Run().due(0, "text").due(0, "rule", 0);
            Run.told("hold 5;").due(0, "count", 1).due(0, "text").due(0, "rule", 0).due(0, "fault");
            Run.told("hold 5;turn 6;beam 0 1 12 1;all 0 1;point 0 1 1;").due(0, "count", 1);
            new Run().refuses("hold 5;@", 1, 7).due(0, "count", 1).takes("hold 6;").due(1, "rule", 0)
                .due(6, "out", 0, 0);
            // A line is six bytes at least: so many fit on THE TAPE.
            Run.told("hold1;".repeat(6) + "beam0 1 1 1;".repeat(10) + "all0 1;".repeat(8)).due(10, "rule", 2);
        });
        Edge.promise(4, "-10 less the place of its FAULT: that which was told stays.", () -> {
            Run.fault("@", 1, 0);
            Run.fault("hold@", 1, 4);
            Run.fault("hold", 2, 4);
            Run.told("hold 5;turn 6;").refuses("turn 7;turn 8;turn 9;x", 2, 21).due(2, "rule", 0).due(5, "out", 0, 0)
                .due(6, "out", 1, 0).refuses("all 0 1;", 6, 8).due(0, "rule", 3).due(2, "rule", 0);
            Busy.same("a text with a FAULT behind all", Busy::run,
                r -> r.due(14, "end", 0).refuses("all 0 1;", 6, 8).refuses("?", 1, 0), r -> r.due(14, "end", 0));
        });
    }

    private static void fault() {
        Edge.promise(5, "The FAULT of the latest text()", () -> {
            new Run().refuses("@", 1, 0).refuses("x", 2, 0).refuses("beam 6", 3, 5).refuses("beam 1 1", 4, 7)
                .refuses("turn 0;".repeat(4) + "turn", 5, 28).refuses("all 0 1;", 6, 8).due(6, "fault")
                .feed("abc").due(6, "fault").due(3, "end", 0).due(6, "fault").due(0, "keep", 0).due(6, "fault");
        });
        Edge.promise(5, "; 0.", () -> {
            new Run().due(0, "fault").refuses("@", 1, 0).takes("hold 0;").due(0, "fault").refuses("@", 1, 0)
                .due(0, "text").due(0, "fault");
        });
    }

    private static void tape() {
        Edge.terms("THE TAPE has 320 bytes, places from 0.", () -> {
            String line = "turn -9999;";
            new Run().takes(line + " ".repeat(320 - line.length())).due(-9999, "out", 0, 0);
            new Run().takes(" ".repeat(320 - line.length()) + line).due(-9999, "out", 0, 0);
            Run.fault(" ".repeat(319) + "@", 1, 319);
            Run.fault(" ".repeat(319) + "x", 2, 319);
            Run.fault(" ".repeat(319) + "7", 2, 319);
            Run.fault(" ".repeat(316) + "turn", 2, 320);
            Run.fault("x", 2, 0);
            Run.fault("x".repeat(320), 2, 0);
            Run.fault("1".repeat(320), 1, 0);
        });
    }

    private static void tokens() {
        Edge.terms("TOKENS, each as long as may be", () -> {
            Run.fault("holdx 0;", 2, 0);
            Run.fault("turnturn 0;", 2, 0);
            Run.fault("hold 12345;", 1, 5);
            Run.fault("hold 123456789;", 1, 5);
            Run.fault("beam 01 2;", 2, 9);
            Run.told("hold 1234;").due(1234, "out", 0, 0);
        });
        Edge.terms("any number of blanks (32) ahead of, between, behind them", () -> {
            Run.told("hold 5;   ").due(5, "out", 0, 0);
            Run.told("   hold 5;").due(5, "out", 0, 0);
            Run.told("hold    -    5    ;    turn   6   ;").due(-5, "out", 0, 0).due(6, "out", 1, 0);
            new Run().takes(" ").takes(" ".repeat(50)).due(0, "rule", 0);
            for (int c : new int[] {0, 9, 10, 13, 31, 33}) {
                Run r = new Run().feed("hold");
                r.ask("feed", c);
                r.feed("5;").due(-14, "text").due(1, "fault");
            }
        });
        Edge.terms("(one at least between two NAMES, between two NUMBERS; else none is needed)", () -> {
            Run.told("hold-5;turn6;beam0 1 12 10;point0 999 11;all0 99;").due(-5, "out", 0, 0).due(6, "out", 1, 0)
                .due(10, "beam", 0, 3).due(999, "load", 0, 2).due(99, "load", 1, 2);
            Run.fault("beam01 2 1;", 2, 10);
            Run.fault("holdhold 1;", 2, 0);
            Run.fault("hold hold 1;", 2, 5);
        });
        Edge.terms("NAMES (a .. z), NUMBERS (1 to 4 figures), one of - ;", () -> {
            Run.fault("a", 2, 0);
            Run.fault("z", 2, 0);
            Run.fault("`", 1, 0);
            Run.fault("{", 1, 0);
            Run.fault("A", 1, 0);
            Run.fault("Z", 1, 0);
            Run.fault("hold /", 1, 5);
            Run.fault("hold :", 1, 5);
            Run.fault("hold ,", 1, 5);
            Run.fault("hold .", 1, 5);
            Run.fault("hold <", 1, 5);
            Run.fault("-", 2, 0);
            Run.fault(";", 2, 0);
            Run.told("hold 0;hold 9;turn 10;turn 999;turn 1000;turn 9999;").due(0, "out", 0, 0).due(9, "out", 1, 0)
                .due(10, "out", 2, 0).due(999, "out", 3, 0).due(1000, "out", 4, 0).due(9999, "out", 5, 0);
            Run.told("hold 0000;turn 0007;").due(0, "out", 0, 0).due(7, "out", 1, 0);
            Run.fault("hold 00000;", 1, 5);
            Run.fault("hold 10000;", 1, 5);
        });
    }

    private static void lines() {
        Edge.terms("text: { line }", () -> {
            new Run().takes("").takes("hold 0;").takes("hold 0;turn 0;").due(2, "rule", 0);
            Run.told("all 0 1;beam 1 0 12 1;turn 4;hold 3;").due(4, "out", 0, 0).due(1, "beam", 0, 0);
            Run.fault("hold 0;;", 2, 7);
            Run.fault("hold 0;5", 2, 7);
            Run.fault("hold 0;-", 2, 7);
        });
        Edge.terms("line: turn C ; | hold C ; | beam N N N N ; | point N N N ; | all N N ;", () -> {
            String[] whole = {"turn 1;", "hold 1;", "beam 0 1 2 1;", "point 0 1 1;", "all 0 1;"};
            for (String line : whole) {
                for (int n = 1; n < line.length(); n++) {
                    String cut = line.substring(0, n);
                    boolean begins = n >= line.indexOf(' ');
                    Run.fault(cut, 2, begins ? n : 0);
                }
                String numbers = line.substring(0, line.length() - 1);
                Run.fault(numbers + " 1;", 2, numbers.length() + 1);
                Run.fault(numbers + " hold 1;", 2, numbers.length() + 1);
                Run.fault(numbers + "-;", 2, numbers.length());
            }
            Run.fault("turn;", 2, 4);
            Run.fault("beam 0 1 2;", 2, 10);
            Run.fault("point 0 1;", 2, 9);
            Run.fault("all 0;", 2, 5);
        });
        Edge.terms("C: [ - ] N", () -> {
            Run.told("turn -1;hold -2;turn 3;hold - 4;turn -0;").due(-1, "out", 0, 0).due(-2, "out", 1, 0)
                .due(3, "out", 2, 0).due(-4, "out", 3, 0).due(0, "out", 4, 0);
            Run.fault("turn --1;", 2, 6);
            Run.fault("turn -;", 2, 6);
            Run.fault("turn 1-;", 2, 6);
            Run.fault("beam -0 1 1 1;", 2, 5);
            Run.fault("beam 0 1 1 -1;", 2, 11);
            Run.fault("all 0 -1;", 2, 6);
            Run.fault("point 0 1 -1;", 2, 10);
        });
        Edge.terms("turn, hold: a JOINT more (hold: HELD), its COUPLE.", () ->
            Run.told("turn 7;hold-8;").due(2, "rule", 0).due(1, "rule", 1).due(0, "joint", 0, 0).due(1, "joint", 1, 0)
                .due(7, "out", 0, 0).due(-8, "out", 1, 0));
        Edge.terms("beam: a BEAM more: two JOINTS (0 to 5), LENGTH, STIFF.", () -> {
            Run.told("hold 0;".repeat(6) + "beam 0 5 12 1;beam 5 0 1 10;").row("beam", 0, 0, 5, 12, 1)
                .row("beam", 1, 5, 0, 1, 10);
            Run.fault("beam 6 0 1 1;", 3, 5);
            Run.fault("beam 0 6 1 1;", 3, 7);
            Run.fault("beam 9999 0 1 1;", 3, 5);
        });
        Edge.terms("point: on a BEAM (0 to 9), P, A (1 to 11).", () -> {
            Run.told(TWO + "beam 0 1 12 1;".repeat(10) + "point 0 1 1;point 9 999 11;").row("load", 0, 0, 1, 1, 1)
                .row("load", 1, 9, 1, 999, 11);
            Run.fault("point 10 1 1;", 3, 6);
            Run.fault("point 0 1 0;", 3, 10);
            Run.fault("point 0 1 12;", 3, 10);
        });
        Edge.terms("all: on a BEAM, W.", () -> {
            Run.told(TWO + "beam 0 1 12 1;".repeat(10) + "all 0 1;all 9 99;").row("load", 0, 0, 0, 1, NONE)
                .row("load", 1, 9, 0, 99, NONE);
            Run.fault("all 10 1;", 3, 4);
        });
    }

    private static void faultsOfTokens() {
        Edge.terms("FAULTS, the first met as it is read (a TOKEN is read when the one before has been taken)", () -> {
            Run.fault("x@", 2, 0);
            Run.fault("turn x@", 2, 5);
            Run.fault("turn 1 2 @", 2, 7);
            Run.fault("beam 6@", 3, 5);
            Run.fault("beam 6 12345", 3, 5);
            Run.fault("beam 0 0@", 4, 7);
            Run.fault("beam 0 6@", 3, 7);
            Run.fault("beam 6 6 1 1;", 3, 5);
            Run.fault("beam 0 1 5@", 3, 9);
            Run.fault("beam 0 1 1 11@", 3, 11);
            Run.fault("beam 0 1 1 10@", 1, 13);
            Run.fault("all 0 100 1;", 3, 6);
            Run.fault("turn 0;".repeat(4) + "turn@", 5, 28);
            Run.fault("hold 0;".repeat(6) + "hold", 5, 42);
            Run.fault("all 0 1;".repeat(8) + "all 10 @", 5, 64);
            Run.fault("all 9 1;beam 5 4 1 1;@", 1, 21);
            Run.fault("turn 12345;@", 1, 5);
        });
        Edge.terms("1 no TOKEN, a NUMBER that is too long (its first byte).", () -> {
            Run.fault("@", 1, 0);
            Run.fault("  +", 1, 2);
            Run.fault("turn 1;_", 1, 7);
            Run.fault("turn 12345;", 1, 5);
            Run.fault("turn -00000;", 1, 6);
            Run.fault("12345", 1, 0);
            Run.fault("  99999999999999999999", 1, 2);
            Run.fault("beam 0 1 1 00001;", 1, 11);
        });
        Edge.terms("2 a TOKEN that can not stand there (a NAME that begins no line; or the end: the length).", () -> {
            String[] names = {"t", "tur", "turm", "turns", "hol", "holt", "holds", "bea", "bean", "beams", "poin",
                "poinr", "points", "al", "alk", "alls", "a", "z", "pin", "burn", "cold", "team", "joint", "ill", "tarn", "held", "bram",
                "paint", "axl"};
            for (String name : names) {
                Run.fault(name + " 1;", 2, 0);
                Run.fault("hold 0; " + name + " 1;", 2, 8);
            }
            Run.fault("1", 2, 0);
            Run.fault("9999", 2, 0);
            Run.fault("turn ;", 2, 5);
            Run.fault("turn turn", 2, 5);
            Run.fault("turn", 2, 4);
            Run.fault("turn   ", 2, 7);
            Run.fault("turn 1", 2, 6);
            Run.fault("turn 1   ", 2, 9);
            Run.fault("turn -", 2, 6);
            Run.fault("turn -   ", 2, 9);
        });
    }

    private static void faultsOfNumbers() {
        Edge.terms("3 a NUMBER out of its bounds (of a LENGTH one that is none of these).", () -> {
            for (int length = 0; length <= 30; length++) {
                boolean good = length > 0 && length <= 12 && 12 % length == 0;
                String line = "beam 0 1 " + length + " 1;";
                if (good) {
                    Run.told(TWO + line).due(length, "beam", 0, 2);
                } else {
                    Run.fault(line, 3, 9);
                }
            }
            Run.fault("beam 0 1 9999 1;", 3, 9);
            Run.fault("beam 0 1 1 0;", 3, 11);
            Run.fault("beam 0 1 1 11;", 3, 11);
            Run.fault("point 0 0 1;", 3, 8);
            Run.fault("point 0 1000 1;", 3, 8);
            Run.fault("all 0 0;", 3, 6);
            Run.fault("all 0 100;", 3, 6);
            Run.fault("all 9999 1;", 3, 4);
        });
        Edge.terms("4 the second JOINT as the first (it).", () -> {
            for (int j = 0; j < 6; j++) {
                Run.fault("beam " + j + " " + j + " 1 1;", 4, 7);
            }
            Run.fault("beam 3    0003 1 1;", 4, 10);
            Run.fault("hold 0;beam 5 5", 4, 14);
        });
    }

    private static void faultsOfSums() {
        Edge.terms("5 the 7th JOINT, the 5th turn, the 11th BEAM, the 9th LOAD (its NAME).", () -> {
            Run.told("hold 0;".repeat(6));
            Run.fault("hold 0;".repeat(7), 5, 42);
            Run.fault("hold 0;".repeat(3) + "turn 0;".repeat(3) + "   turn 0;", 5, 45);
            Run.told("turn 0;".repeat(4) + TWO);
            Run.fault("turn 0;".repeat(5), 5, 28);
            Run.fault("hold 0;" + "turn 0;".repeat(5), 5, 35);
            String beams = "beam0 1 2 1;";
            Run.told(TWO + beams.repeat(10));
            Run.fault(TWO + beams.repeat(11), 5, 14 + 120);
            String loads = "all0 1;";
            Run.told(TWO + beams + loads.repeat(8));
            Run.told(TWO + beams + loads.repeat(4) + "point0 1 1;".repeat(4));
            Run.fault(TWO + beams + loads.repeat(9), 5, 26 + 56);
            Run.fault(TWO + beams + loads.repeat(4) + "point0 1 1;".repeat(5), 5, 26 + 28 + 44);
            Run.fault(loads.repeat(8) + "point", 5, 56);
        });
        Edge.terms("Behind all (the length): 6 a JOINT, a BEAM is told that there is not, "
            + "or a point at A no less than its LENGTH.", () -> {
            Run.fault("beam 0 1 1 1;", 6, 13);
            Run.fault("hold 0;beam 0 1 1 1;", 6, 20);
            Run.fault("hold 0;beam 1 0 1 1;   ", 6, 23);
            Run.fault(TWO + "beam 1 2 1 1;", 6, 27);
            Run.fault(TWO + "beam 0 1 1 1;all 1 1;", 6, 35);
            Run.fault("all 0 1;", 6, 8);
            Run.fault("point 9 1 1;", 6, 12);
            for (int length : new int[] {1, 2, 3, 4, 6}) {
                String beam = TWO + "beam 0 1 " + length + " 1;";
                Run.fault(beam + "point 0 1 " + length + ";", 6, 39);
                Run.fault(beam + "point 0 1 11;", 6, 40);
                if (length > 1) {
                    Run.told(beam + "point 0 1 " + (length - 1) + ";").due(length - 1, "load", 0, 3);
                }
            }
            Run.told("point 0 1 11;beam 1 0 12 1;" + TWO).due(11, "load", 0, 3);
            Run.told("all 1 1;beam 0 1 1 1;beam 1 0 1 1;" + TWO).due(1, "load", 0, 0);
        });
    }

    private static void whatIsTaken() {
        Edge.terms("A text that is taken tells all, in place of what there was (what no line tells is as at first)", () -> {
            Busy.run().due(2, "text").due(2, "rule", 0).due(1, "rule", 1).due(0, "rule", 2).due(0, "rule", 3)
                .due(3, "out", 0, 0).due(-4, "out", 1, 0).due(BAD, "joint", 2, 0).due(BAD, "beam", 0, 0)
                .due(BAD, "load", 0, 0).due(NOTHING, "moment", 0, 0).due(2, "count", 3).takes("").due(0, "rule", 0);
            Run.told("turn 1;hold 2;beam 0 1 12 9;all 0 99;").takes("turn 3;hold 4;beam 1 0 6 1;").due(3, "out", 0, 0)
                .due(4, "out", 1, 0).row("beam", 0, 1, 0, 6, 1, 2, 0).moments(0, 0).due(3, "out", 0, 1);
        });
        Edge.terms("MOMENTS are FIRST, there were no STEPS; IMAGES are gone; SHEETS stay.", () -> {
            Busy.run().due(2, "rule", 4).due(14, "end", 0).takes("turn 9;hold 0;beam 0 1 12 1;all 0 1;").anew()
                .moments(-1200, 1200).due(0, "count", 0).due(STATE, "back", 0).due(STATE, "back", 1).due(4, "count", 2)
                .due(1, "read", 0, 0, 2, 1).due(-12, "out", 1, 0).due(1, "read", 2, 2, 2, 1).due(-9999, "out", 0, 0)
                .due(-11, "lay", 3, 0, 0).due(0, "keep", 0).due(0, "keep", 1).takes("").due(0, "count", 0);
        });
    }
}
