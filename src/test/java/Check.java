/** What the tests of the project share: rows that are due, texts fed letter by letter. */
final class Check {
    private static int wrong = 0;
    /** The words of the document that the rows are about, ahead of each row that is wrong. */
    private static String about = "";

    private Check() {
    }

    static void about(String words) {
        about = words.isEmpty() ? "" : words + ": ";
    }

    static void due(String what, long got, long want) {
        if (got != want) {
            wrong++;
            System.out.println(about + what + " answered " + got + ", due is " + want);
        }
    }

    static void that(String what, boolean holds) {
        due(what, holds ? 1 : 0, 1);
    }

    static void feed(JointMoments x, String text) {
        int had = x.count(1);
        for (int i = 0; i < text.length(); i++) {
            due("feed of '" + text.charAt(i) + "'", x.feed(text.charAt(i)), had + i + 1);
        }
    }

    static int tell(JointMoments x, String text) {
        feed(x, text);
        return x.text();
    }

    /** A new object with a text that is due to be taken. */
    static JointMoments told(String text) {
        JointMoments x = new JointMoments();
        int lines = (int) text.chars().filter(c -> c == ';').count();
        due("text of " + text, tell(x, text), lines);
        due("fault of " + text, x.fault(), 0);
        return x;
    }

    static void moments(String what, JointMoments x, int... want) {
        for (int e = 0; e < want.length; e++) {
            due(what + ": moment(" + e + ", 1)", x.moment(e, 1), want[e]);
        }
        due(what + ": ENDS", 2 * x.rule(2), want.length);
    }

    static void finish() {
        if (wrong > 0) {
            System.out.println(wrong + " answers are wrong");
            System.exit(1);
        }
    }
}
