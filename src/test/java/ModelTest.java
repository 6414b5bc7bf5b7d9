import java.util.ArrayList;
import java.util.List;
import java.util.Random;

/** All promises: long runs of calls, answered by the class and by the plain second writing alike. */
public final class ModelTest {
    private static final String[] ASKED = {
        "fault", "rule", "joint", "out", "at", "beam", "load", "moment", "share", "rank", "next", "torn", "count",
    };
    private static final String[] CHANGING = {
        "feed", "end", "text", "step", "sweep", "begin", "couple", "hold", "stiffen", "put", "lift", "fall", "keep",
        "back", "sheet", "lay", "read", "step", "sweep", "step", "sweep", "lay", "read", "put", "couple",
    };
    private static final int[] EDGES = {
        Integer.MIN_VALUE, Integer.MAX_VALUE, -10000, -9999, 9999, 10000, -1, 40, 41, 200, 201, 320, 999, 1000, 99, 100,
    };
    private static final int[] LENGTHS = {1, 2, 3, 4, 6, 12};

    private final Random random;
    private final Run run = new Run();
    private final Plain plain = new Plain();
    private final List<String> rows = new ArrayList<>();

    private ModelTest(long seed) {
        random = new Random(seed);
    }

    public static void main(String[] args) {
        int runs = args.length > 1 ? Integer.parseInt(args[1]) : 8000;
        for (int seed = 0; seed < runs; seed++) {
            if (!new ModelTest(seed).run(seed)) {
                System.out.println("run of seed " + seed + " differs");
                System.exit(1);
            }
        }
    }

    /** Texts, changes and questions, till the 512 calls of an object are used up. */
    private boolean run(int seed) {
        boolean good = true;
        while (good && run.calls() < Run.MOST_CALLS) {
            good = tell(random.nextInt(4) > 0 || seed % 3 == 0);
            for (int n = 0; n < 40 && good; n++) {
                good = call(CHANGING[random.nextInt(CHANGING.length)]);
                for (int i = 0; i < 3 && good; i++) {
                    good = call(ASKED[random.nextInt(ASKED.length)]);
                }
            }
            good = good && all(ASKED[random.nextInt(ASKED.length)]);
        }
        return good;
    }

    private boolean tell(boolean whole) {
        String text = whole ? wholeText() : scrambled();
        boolean good = same("end", 0);
        for (int i = 0; i < text.length() && good; i++) {
            good = same("feed", (int) text.charAt(i));
        }
        return good && same("text") && same("fault");
    }

    private String wholeText() {
        StringBuilder text = new StringBuilder();
        int joints = 2 + random.nextInt(5);
        int turning = 0;
        for (int j = 0; j < joints; j++) {
            boolean held = turning == 4 || random.nextInt(3) == 0;
            turning += held ? 0 : 1;
            text.append(held ? "hold " : "turn ").append(random.nextBoolean() ? "-" : "");
            text.append(random.nextInt(random.nextBoolean() ? 30 : 10000)).append(';');
        }
        int beams = 1 + random.nextInt(10);
        int[] lengths = new int[beams];
        for (int b = 0; b < beams; b++) {
            int from = random.nextInt(joints);
            int to = (from + 1 + random.nextInt(joints - 1)) % joints;
            lengths[b] = LENGTHS[random.nextInt(6)];
            text.append("beam").append(from).append(' ').append(to).append(' ').append(lengths[b]).append(' ');
            text.append(1 + random.nextInt(random.nextBoolean() ? 2 : 10)).append(';');
        }
        int loads = random.nextInt(9);
        for (int i = 0; i < loads; i++) {
            int b = random.nextInt(beams);
            if (lengths[b] == 1 || random.nextInt(3) == 0) {
                text.append("all ").append(b).append(' ').append(1 + random.nextInt(99)).append(';');
            } else {
                text.append("point").append(b).append(' ').append(1 + random.nextInt(999)).append(' ');
                text.append(1 + random.nextInt(lengths[b] - 1)).append(';');
            }
        }
        return text.length() > 320 ? wholeText() : text.toString();
    }

    private String scrambled() {
        StringBuilder text = new StringBuilder(wholeText());
        String signs = "turnholdbeampointall0123456789 -;@A";
        int changes = 1 + random.nextInt(3);
        for (int n = 0; n < changes && text.length() > 0; n++) {
            int at = random.nextInt(text.length());
            char c = signs.charAt(random.nextInt(signs.length()));
            switch (random.nextInt(4)) {
                case 0 -> text.setCharAt(at, c);
                case 1 -> text.deleteCharAt(at);
                case 2 -> text.insert(at, c);
                default -> text.setLength(at);
            }
        }
        text.setLength(Math.min(320, text.length()));
        return text.toString();
    }

    private int argument(String name, int i) {
        if (random.nextInt(40) == 0) {
            return EDGES[random.nextInt(EDGES.length)];
        }
        switch (name + i) {
            case "feed0":
                return random.nextInt(128);
            case "couple1":
                return random.nextInt(19999) - 9999;
            case "moment0", "share0":
                return random.nextInt(21);
            case "beam0", "stiffen0", "put0", "stiffen1":
                return random.nextInt(11);
            case "put1":
                return 1 + random.nextInt(150);
            case "put2":
                return random.nextInt(5);
            case "sweep1":
                return 1 + random.nextInt(random.nextBoolean() ? 5 : 200);
            case "fall0":
                return random.nextInt();
            case "lay2":
                return random.nextInt(3) > 0 ? random.nextInt(4) : random.nextInt(20001) - 10000;
            case "sheet2":
                return random.nextInt(42) - 1;
            case "lay1", "read2":
                return random.nextInt(8) - 1;
            case "read0", "lay0", "sheet0":
                return random.nextInt(4);
            case "read1", "sheet1":
                return random.nextInt(3);
            case "rule0":
                return random.nextInt(9);
            default:
                return random.nextInt(7);
        }
    }

    private boolean call(String name) {
        int[] args = new int[Run.parameters(name)];
        for (int i = 0; i < args.length; i++) {
            args[i] = argument(name, i);
        }
        return same(name, args);
    }

    /** A question with every argument that may tell anything. */
    private boolean all(String name) {
        boolean good = true;
        int parameters = Run.parameters(name);
        for (int a = -1; a <= (parameters == 0 ? -1 : 20) && good; a++) {
            for (int b = -1; b <= (parameters < 2 ? -1 : 6) && good; b++) {
                good = parameters == 0 ? same(name) : parameters == 1 ? same(name, a) : same(name, a, b);
            }
        }
        return good;
    }

    private boolean same(String name, int... args) {
        if (run.calls() >= Run.MOST_CALLS) {
            return true;
        }
        int got = run.ask(name, args);
        int want = plain.call(name, args);
        rows.add(Run.written(name, args) + " answered " + got);
        if (got != want) {
            rows.forEach(System.out::println);
            System.out.println("due is " + want);
        }
        return got == want;
    }
}
