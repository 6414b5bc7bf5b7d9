import java.util.Random;

/** Promise 12 at its widest: SURE of the stiffest frames under the greatest LOADS, against whole fractions. */
public final class ExactTest {
    private static final Random RANDOM = new Random(20);

    public static void main(String[] args) {
        for (int n = 0; n < 3000; n++) {
            compare(text(n % 10));
        }
        Check.finish();
    }

    /** Few BEAMS are long: those bear the LOADS; the others are as stiff as may be. */
    private static String text(int firstLong) {
        StringBuilder text = new StringBuilder();
        for (int j = 0; j < 6; j++) {
            text.append(j < 4 ? "turn" : "hold").append(RANDOM.nextBoolean() ? "-" : "").append("9999;");
        }
        int longOnes = 1 + RANDOM.nextInt(2);
        for (int b = 0; b < 10; b++) {
            boolean isLong = (b + 10 - firstLong) % 10 < longOnes;
            int from = RANDOM.nextInt(RANDOM.nextInt(3) == 0 ? 6 : 4);
            int to = (from + 1 + RANDOM.nextInt(3)) % (from < 4 ? 4 : 6);
            text.append("beam").append(from).append(' ').append(to).append(isLong ? " 12 " : " 1 ");
            text.append(isLong ? 1 + RANDOM.nextInt(10) : RANDOM.nextInt(4) > 0 ? 10 : 9).append(';');
        }
        int place = RANDOM.nextBoolean() ? 4 : 8;
        for (int i = 0; i < 8; i++) {
            int b = (firstLong + RANDOM.nextInt(longOnes)) % 10;
            text.append("point").append(b).append(" 999 ").append(place).append(';');
        }
        return text.toString();
    }

    private static void compare(String text) {
        JointMoments x = Check.told(text);
        Plain plain = new Plain();
        for (int i = 0; i < text.length(); i++) {
            plain.call("feed", text.charAt(i));
        }
        plain.text();
        for (int e = 0; e < 20; e++) {
            Check.due("SURE of " + e + " in " + text, x.moment(e, 2), plain.sure(e));
        }
    }
}
