import java.math.BigInteger;
import java.util.function.Consumer;

/** Promises 19 to 24, and the Terms about what begins anew. */
final class ChangeEdges {
    private static final int BAD = Run.BAD, STATE = Run.STATE, FULL = Run.FULL, NONE = Run.NONE;
    private static final int MIN = Run.MIN, MAX = Run.MAX;
    private static final String TEXT = "turn 64;turn 0;hold 0;beam 0 1 12 1;beam 1 2 4 3;all 0 1;";

    private ChangeEdges() {
    }

    static void all() {
        anew();
        couple();
        hold();
        stiffen();
        put();
        lift();
        fall();
        fallBySeed();
    }

    private static void anew() {
        String words = "couple(), hold(), stiffen(), put(), lift(), back(), and fall(), read() by which any come, "
            + "begin anew, if they are not refused (also if all stays as it is): MOMENTS are FIRST, there were no STEPS.";
        begins(words, r -> r.due(1, "couple", 1, 5));
        begins(words, r -> r.due(1, "couple", 0, 65));
        begins(words, r -> r.due(0, "hold", 1, 1));
        begins(words, r -> r.due(0, "hold", 1, 0));
        begins(words, r -> r.due(1, "hold", 2, 1));
        begins(words, r -> r.due(3, "stiffen", 1, 9));
        begins(words, r -> r.due(3, "stiffen", 1, 3));
        begins(words, r -> r.due(3, "put", 1, 9, 0));
        begins(words, r -> r.due(1, "lift", 1));
        begins(words, r -> r.due(6, "back", 0));
        begins(words, r -> r.due(1, "fall", 1, 1));
        begins(words, r -> r.due(2, "read", 0, 0, 0, 2));
        begins(words, r -> r.due(1, "read", 0, 0, 2, 20).due(2, "torn"));
        begins(words, r -> r.due(1, "couple", 0, -9999).due(1, "step", 0).due(1, "read", 2, 2, 2, 1));
        goesOn(words, r -> r.due(BAD, "couple", 6, 0).due(BAD, "hold", 6, 0).due(FULL, "hold", 2, 0)
            .due(BAD, "stiffen", 0, 0).due(BAD, "put", 0, 0, 0).due(BAD, "lift", 2).due(STATE, "back", 1)
            .due(BAD, "fall", 1, 9).due(BAD, "read", 0, 0, 0, 21).due(-20, "read", 2, 2, 4, 1));
        goesOn(words, r -> r.due(0, "read", 0, 0, 0, 0).due(0, "read", 0, 1, 0, 1).due(0, "read", 3, 0, 0, 1)
            .due(0, "read", 0, 0, 3, 1));
        goesOn(words, r -> r.due(1, "keep", 0).due(0, "keep", 1).due(1, "sheet", 0, 2, 5).due(1, "lay", 0, 0, 1)
            .due(15, "feed", 'x').due(15, "end", 0));
        Edge.terms(words, () -> {
            Run r = Run.told("turn 9;hold 0;beam 0 1 12 1;" + "all 0 1;".repeat(8));
            r.due(1, "step", 0).due(0, "fall", 1, 8).due(FULL, "put", 0, 1, 0).due(1, "rule", 4);
        });
    }

    private static void begins(String words, Consumer<Run> change) {
        Edge.terms(words, () -> {
            Run r = Busy.run();
            change.accept(r);
            r.anew();
        });
    }

    private static void goesOn(String words, Consumer<Run> calls) {
        Edge.terms(words, () -> {
            Run r = Busy.run();
            int moment = r.ask("moment", 0, 1);
            calls.accept(r);
            r.due(2, "rule", 4).due(1, "rule", 7).due(moment, "moment", 0, 1).due(1, "joint", 0, 3)
                .due(1, "joint", 1, 3);
        });
    }

    private static void couple() {
        Edge.promise(19, "COUPLE of a JOINT becomes c: 1.", () ->
            Run.told(TEXT).due(1, "couple", 0, 9999).due(9999, "out", 0, 0).due(9999 - 1200, "out", 0, 1)
                .due(1, "couple", 2, -9999).due(-9999, "out", 2, 0).due(1, "couple", 1, 0).due(0, "out", 1, 0)
                .due(1, "couple", 1, 1).due(1, "out", 1, 0).due(9999, "out", 0, 0));
        Edge.promise(19, "BAD.", () ->
            Run.told(TEXT).due(BAD, "couple", -1, 0).due(BAD, "couple", 3, 0).due(BAD, "couple", MIN, 0)
                .due(BAD, "couple", MAX, 0).due(BAD, "couple", 0, 10000).due(BAD, "couple", 0, -10000)
                .due(BAD, "couple", 0, MIN).due(BAD, "couple", 0, MAX).due(64, "out", 0, 0));
    }

    private static void hold() {
        Edge.promise(20, "A JOINT is HELD (1) or TURNS (0): whether it was HELD (1, 0).", () ->
            Run.told(TEXT).due(0, "hold", 0, 1).due(1, "joint", 0, 0).due(1, "hold", 0, 1).due(1, "hold", 0, 0)
                .due(0, "joint", 0, 0).due(0, "hold", 0, 0).due(2, "rule", 1).due(1, "hold", 2, 0).due(3, "rule", 1));
        Edge.promise(20, "BAD;", () ->
            Run.told(TEXT).due(BAD, "hold", -1, 1).due(BAD, "hold", 3, 1).due(BAD, "hold", MIN, 0)
                .due(BAD, "hold", MAX, 0).due(BAD, "hold", 0, -1).due(BAD, "hold", 0, 2).due(BAD, "hold", 0, MIN)
                .due(BAD, "hold", 0, MAX).due(0, "joint", 0, 0));
        Edge.promise(20, "FULL: a 5th would turn.", () ->
            Run.told("turn 0;turn 0;turn 0;hold 0;hold 0;hold 0;").due(1, "hold", 3, 0).due(4, "rule", 1)
                .due(FULL, "hold", 4, 0).due(FULL, "hold", 5, 0).due(1, "joint", 4, 0).due(0, "hold", 3, 0)
                .due(1, "hold", 4, 1).due(0, "hold", 0, 1).due(1, "hold", 5, 0).due(FULL, "hold", 4, 0)
                .due(FULL, "hold", 0, 0).due(4, "rule", 1));
    }

    private static void stiffen() {
        Edge.promise(21, "STIFF of a BEAM becomes v: what it was.", () ->
            Run.told(TEXT).due(3, "stiffen", 1, 10).due(10, "stiffen", 1, 1).due(1, "stiffen", 1, 1)
                .due(1, "beam", 1, 3).due(3, "beam", 1, 4).due(4, "joint", 1, 2).due(1, "stiffen", 0, 2)
                .due(2, "beam", 0, 4));
        Edge.promise(21, "BAD.", () ->
            Run.told(TEXT).due(BAD, "stiffen", -1, 1).due(BAD, "stiffen", 2, 1).due(BAD, "stiffen", MIN, 1)
                .due(BAD, "stiffen", MAX, 1).due(BAD, "stiffen", 1, 0).due(BAD, "stiffen", 1, 11)
                .due(BAD, "stiffen", 1, -1).due(BAD, "stiffen", 1, MIN).due(BAD, "stiffen", 1, MAX)
                .due(3, "beam", 1, 3));
    }

    private static void put() {
        Edge.promise(22, "A LOAD more: a point p at a of a BEAM; all p, if a is 0: how many there are.", () ->
            // 100 * 999 * 3 * 1 / 16 = 18731.25, 100 * 999 * 9 / 16 = 56193.75; 100 * 99 * 16 / 12 = 13200.
            Run.told(TEXT).due(2, "put", 1, 999, 3).due(3, "put", 1, 99, 0).row("load", 1, 1, 1, 999, 3)
                .row("load", 2, 1, 0, 99, NONE).due(-18731 - 13200, "moment", 2, 0).due(56193 + 13200, "moment", 3, 0)
                .due(4, "put", 0, 1, 11).due(5, "put", 0, 1, 1).due(6, "put", 0, 1, 0).due(2, "beam", 1, 5)
                .due(4, "beam", 0, 5));
        Edge.promise(22, "BAD;", () ->
            Run.told(TEXT).due(BAD, "put", -1, 1, 0).due(BAD, "put", 2, 1, 0).due(BAD, "put", MIN, 1, 0)
                .due(BAD, "put", MAX, 1, 0).due(BAD, "put", 0, 0, 0).due(BAD, "put", 0, 100, 0)
                .due(BAD, "put", 0, 0, 1).due(BAD, "put", 0, 1000, 1).due(BAD, "put", 0, MIN, 0)
                .due(BAD, "put", 0, MAX, 1).due(BAD, "put", 0, 1, 12).due(BAD, "put", 1, 1, 4).due(BAD, "put", 1, 1, 5)
                .due(BAD, "put", 0, 1, -1).due(BAD, "put", 0, 1, MIN).due(BAD, "put", 0, 1, MAX).due(1, "rule", 3));
        Edge.promise(22, "FULL.", () -> {
            Run r = Run.told(TEXT);
            for (int n = 2; n <= 8; n++) {
                r.due(n, "put", n % 2, n, n % 3);
            }
            r.due(FULL, "put", 0, 1, 0).due(FULL, "put", 1, 999, 3).due(8, "rule", 3).due(7, "lift", 3)
                .due(8, "put", 0, 1, 0).due(FULL, "put", 0, 1, 0);
        });
    }

    private static void lift() {
        Edge.promise(23, "A LOAD goes, those behind it are numbered one less: how many are left.", () -> {
            Run r = Run.told("hold 0;hold 0;beam 0 1 12 1;" + "all 0 1;all 0 2;point 0 3 3;all 0 4;"
                + "point 0 5 5;all 0 6;all 0 7;point 0 8 8;");
            r.due(7, "lift", 7).due(7, "load", 6, 2).due(6, "lift", 0).due(2, "load", 0, 2).row("load", 1, 0, 1, 3, 3)
                .due(5, "lift", 2).row("load", 1, 0, 1, 3, 3).row("load", 2, 0, 1, 5, 5).row("load", 3, 0, 0, 6, NONE)
                .row("load", 4, 0, 0, 7, NONE).due(BAD, "load", 5, 0).due(5, "beam", 0, 5).due(4, "lift", 4)
                .due(3, "lift", 0).due(2, "lift", 0).due(1, "lift", 0).due(-7200, "moment", 0, 0).due(0, "lift", 0)
                .due(0, "moment", 0, 0).due(0, "rule", 3);
            Run.told("hold 0;hold 0;beam 0 1 12 1;beam 0 1 6 2;all 0 1;point 1 2 5;all 0 3;").due(2, "lift", 0)
                .row("load", 0, 1, 1, 2, 5).row("load", 1, 0, 0, 3, NONE).due(1, "beam", 0, 5).due(1, "beam", 1, 5)
                .due(-3600, "moment", 0, 0).due(1, "lift", 0).row("load", 0, 0, 0, 3, NONE).due(0, "moment", 2, 0);
        });
        Edge.promise(23, "BAD.", () ->
            Run.told(TEXT).due(BAD, "lift", -1).due(BAD, "lift", 1).due(BAD, "lift", MIN).due(BAD, "lift", MAX)
                .due(0, "lift", 0).due(BAD, "lift", 0));
    }

    private static void fall() {
        Edge.promise(24, "By a seed, n LOADS more (1 to 8), as long as there is room:", () -> {
            Run.told(TEXT).due(1, "fall", 1, 1).due(2, "rule", 3).due(6, "fall", 1, 8).due(8, "rule", 3)
                .due(0, "fall", 1, 1).due(0, "fall", 1, 8).due(7, "lift", 7).due(1, "fall", 1, 8).due(8, "rule", 3);
            Run.told("hold 0;hold 0;beam 0 1 1 1;").due(8, "fall", 5, 8).due(8, "rule", 3);
            Run.told("hold 0;hold 0;beam 0 1 1 1;").due(7, "fall", 5, 7).due(7, "rule", 3).due(1, "fall", 5, 2);
        });
        Edge.promise(24, ": how many came.", () ->
            Run.told(TEXT).due(3, "fall", 9, 3).due(4, "rule", 3).due(4, "fall", 9, 5).due(0, "fall", 9, 5));
        Edge.promise(24, "BAD;", () ->
            Run.told(TEXT).due(BAD, "fall", 1, 0).due(BAD, "fall", 1, 9).due(BAD, "fall", 1, -1)
                .due(BAD, "fall", 1, MIN).due(BAD, "fall", 1, MAX).due(1, "rule", 3));
        Edge.promise(24, "STATE: there are no BEAMS.", () -> {
            new Run().due(STATE, "fall", 1, 1).due(STATE, "fall", 1, 8).due(BAD, "fall", 1, 9);
            Run.told("turn 1;hold 1;").due(STATE, "fall", 0, 1).due(0, "rule", 3);
        });
    }

    private static void fallBySeed() {
        Edge.promise(24, "the seed becomes seed times 1103515245 and 12345; bits 16 to 30 of it are got:", () -> {
            // Wrapped around or not, with any sign: bits 16 to 30 are those of the whole number.
            for (int seed : new int[] {0, 1, 2, 3, -1, -2, 32767, 65536, 123456789, MAX, MIN, MAX - 1, MIN + 1}) {
                fallen(seed, "hold 0;hold 0;beam 0 1 12 1;beam 0 1 6 1;beam 1 0 4 1;", 12, 6, 4);
            }
        });
        Edge.promise(24, "on the BEAM got modulo BEAMS, its A got by 16 (down) modulo LENGTH: "
            + "a point there of got by 8 (down) modulo 999 and 1; 0: all, of got by 8 (down) modulo 99 and 1:", () -> {
            // Seed 1: got 16838: modulo 3: 2; 1052 modulo 4: 0; 2104 modulo 99: 25. Seed 0: got 0.
            Run.told("hold 0;hold 0;beam 0 1 12 1;beam 0 1 6 1;beam 0 1 4 1;").due(1, "fall", 1, 1)
                .due(1, "fall", 0, 1).row("load", 0, 2, 0, 26, NONE).row("load", 1, 0, 0, 1, NONE)
                // Seed 3: got 17747: modulo 3: 2; 1109 modulo 4: 1; 2218 modulo 999: 220.
                .due(1, "fall", 3, 1).row("load", 2, 2, 1, 221, 1);
            fallen(77, "hold 0;hold 0;beam 0 1 1 1;", 1);
            fallen(78, "hold 0;hold 0;" + "beam 0 1 12 1;beam 0 1 3 1;beam 1 0 6 1;".repeat(3) + "beam 0 1 2 1;",
                12, 3, 6, 12, 3, 6, 12, 3, 6, 2);
            for (int seed = 1000; seed < 1200; seed++) {
                fallen(seed, "hold 0;hold 0;beam 0 1 12 1;beam 0 1 2 1;", 12, 2);
            }
        });
    }

    /** Eight LOADS by a seed, reckoned with whole numbers of any size. */
    private static void fallen(int seed, String text, int... lengths) {
        Run r = Run.told(text).due(8, "fall", seed, 8);
        BigInteger grown = BigInteger.valueOf(seed);
        for (int i = 0; i < 8; i++) {
            grown = grown.multiply(BigInteger.valueOf(1103515245)).add(BigInteger.valueOf(12345));
            int got = 0;
            for (int bit = 0; bit < 15; bit++) {
                got += grown.testBit(16 + bit) ? 1 << bit : 0;
            }
            int b = got % lengths.length;
            int a = got / 16 % lengths[b];
            r.row("load", i, b, a > 0 ? 1 : 0, got / 8 % (a > 0 ? 999 : 99) + 1, a > 0 ? a : NONE);
        }
    }
}
