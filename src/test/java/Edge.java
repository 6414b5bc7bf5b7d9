import java.io.IOException;
import java.nio.file.Files;
import java.nio.file.Path;
import java.util.LinkedHashMap;
import java.util.Map;

/**
 * A boundary case: the promise that it is of, the document's own words, and a test of its own.
 * The words are looked up in the document, and none of its words may be left without a test.
 */
final class Edge {
    /** By the number of the promise, 0 for the Terms: all words, a byte each whether they have a test. */
    private static final Map<Integer, String> SECTIONS = new LinkedHashMap<>();
    private static final Map<Integer, boolean[]> TESTED = new LinkedHashMap<>();
    private static int cases;

    private Edge() {
    }

    static void promise(int number, String words, Runnable test) {
        cases++;
        String about = (number == 0 ? "Terms" : "Promise " + number) + " '" + words + "'";
        Check.about(about);
        quote(number, words);
        try {
            test.run();
        } catch (RuntimeException e) {
            Check.that("the run ends by " + e, false);
        }
        Check.about("");
    }

    static void terms(String words, Runnable test) {
        promise(0, words, test);
    }

    /** The document is looked at only where it is: a checkout may stand alone. */
    static void open(Path document) throws IOException {
        if (!Files.isReadable(document)) {
            System.out.println("no document at " + document + ": its words are not looked up");
            return;
        }
        String all = Files.readString(document).replaceAll("```text|```|=+ [12] ", " ").replaceAll("\\s+", " ");
        section(0, all, " ## Terms ", " The constants: ");
        for (int n = 1; n <= 31; n++) {
            section(n, all, " ## Promise " + n + ": ", " ## ");
        }
    }

    private static void section(int number, String all, String from, String to) {
        int start = all.indexOf(from);
        if (start < 0) {
            Check.that("the document has '" + from + "'", false);
            return;
        }
        int begin = start + from.length();
        if (number > 0) {
            // Behind the name and the signature, which stands between two signs of its own.
            begin = all.indexOf("`: ", begin) + 3;
        }
        int end = all.indexOf(to, begin);
        String words = all.substring(begin, end < 0 ? all.length() : end);
        SECTIONS.put(number, words);
        TESTED.put(number, new boolean[words.length()]);
    }

    private static void quote(int number, String words) {
        String section = SECTIONS.get(number);
        if (section == null) {
            return;
        }
        int at = section.indexOf(words);
        Check.that("the document says it", at >= 0);
        for (; at >= 0; at = section.indexOf(words, at + 1)) {
            java.util.Arrays.fill(TESTED.get(number), at, at + words.length(), true);
        }
    }

    static void close() {
        for (int number : SECTIONS.keySet()) {
            String section = SECTIONS.get(number);
            StringBuilder untested = new StringBuilder();
            for (int i = 0; i < section.length(); i++) {
                untested.append(TESTED.get(number)[i] ? '~' : section.charAt(i));
            }
            String left = untested.toString().replaceAll("~+", " .. ");
            Check.that("promise " + number + ": all has a test, but: " + left, !left.matches(".*[A-Za-z0-9].*"));
        }
        System.out.println(cases + " boundary cases");
    }
}
