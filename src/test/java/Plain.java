import java.math.BigInteger;
import java.util.ArrayList;
import java.util.Arrays;
import java.util.List;
import java.util.regex.Matcher;
import java.util.regex.Pattern;

/**
 * The document a second time, in the plainest form and with all of the library: the class is
 * compared with it over many runs. It shares no line and no way of reckoning with the class.
 */
final class Plain {
    private static final Pattern TOKEN = Pattern.compile(" *([a-z]+|[0-9]+|-|;|\\z|.)", Pattern.DOTALL);

    static final class Fault extends RuntimeException {
        private static final long serialVersionUID = 1;
        final int code;
        final int place;

        Fault(int code, int place) {
            this.code = code;
            this.place = place;
        }
    }

    /** Joints: {held, couple}; beams: {from, to, length, stiff}; loads: {beam, size, place}. */
    static final class Told {
        final List<int[]> joints = new ArrayList<>();
        final List<int[]> beams = new ArrayList<>();
        final List<int[]> loads = new ArrayList<>();

        Told copy() {
            Told t = new Told();
            joints.forEach(r -> t.joints.add(r.clone()));
            beams.forEach(r -> t.beams.add(r.clone()));
            loads.forEach(r -> t.loads.add(r.clone()));
            return t;
        }
    }

    private final StringBuilder tape = new StringBuilder();
    private Told told = new Told();
    private final Told[] images = new Told[2];
    private final Object[] sheets = new Object[4];
    private List<Integer> stepped = new ArrayList<>();
    private int[] moments = new int[0];
    private int textFault;
    private int readFault;

    // ---- reading

    private Matcher tokens;
    private String token;
    private int place;

    private void read() {
        tokens.find();
        token = tokens.group(1);
        place = tokens.start(1);
        if (token.matches("[0-9]{5,}") || !token.matches("[a-z]+|[0-9]+|-|;|")) {
            throw new Fault(1, place);
        }
    }

    private int number(int low, int high) {
        read();
        return numberRead(low, high);
    }

    private int numberRead(int low, int high) {
        if (!token.matches("[0-9]+")) {
            throw new Fault(2, place);
        }
        int v = Integer.parseInt(token);
        if (v < low || v > high) {
            throw new Fault(3, place);
        }
        return v;
    }

    private void line(Told t) {
        switch (token) {
            case "turn", "hold" -> {
                boolean held = token.equals("hold");
                if (t.joints.size() == 6 || !held && t.joints.stream().filter(r -> r[0] == 0).count() == 4) {
                    throw new Fault(5, place);
                }
                read();
                int sign = token.equals("-") ? -1 : 1;
                if (sign < 0) {
                    read();
                }
                t.joints.add(new int[] {held ? 1 : 0, sign * numberRead(0, 9999)});
            }
            case "beam" -> {
                if (t.beams.size() == 10) {
                    throw new Fault(5, place);
                }
                int a = number(0, 5);
                int b = number(0, 5);
                if (a == b) {
                    throw new Fault(4, place);
                }
                int length = number(0, 9999);
                if (!List.of(1, 2, 3, 4, 6, 12).contains(length)) {
                    throw new Fault(3, place);
                }
                t.beams.add(new int[] {a, b, length, number(1, 10)});
            }
            case "point", "all" -> {
                boolean point = token.equals("point");
                if (t.loads.size() == 8) {
                    throw new Fault(5, place);
                }
                int b = number(0, 9);
                int size = number(1, point ? 999 : 99);
                t.loads.add(new int[] {b, size, point ? number(1, 11) : 0});
            }
            default -> throw new Fault(2, place);
        }
        read();
        if (!token.equals(";")) {
            throw new Fault(2, place);
        }
    }

    int text() {
        String all = tape.toString();
        tape.setLength(0);
        tokens = TOKEN.matcher(all);
        Told t = new Told();
        int lines = 0;
        textFault = 0;
        try {
            for (read(); !token.isEmpty(); read()) {
                line(t);
                lines++;
            }
            boolean whole = t.beams.stream().allMatch(r -> Math.max(r[0], r[1]) < t.joints.size())
                && t.loads.stream().allMatch(r -> r[0] < t.beams.size() && r[2] < t.beams.get(r[0])[2]);
            if (!whole) {
                throw new Fault(6, all.length());
            }
        } catch (Fault f) {
            textFault = f.code;
            return -10 - f.place;
        }
        told = t;
        Arrays.fill(images, null);
        anew();
        return lines;
    }

    // ---- what there is

    private int jointAt(int e) {
        return told.beams.get(e / 2)[e % 2];
    }

    private int k(int e) {
        int[] b = told.beams.get(e / 2);
        return 12 * b[3] / b[2];
    }

    private List<Integer> ends(int j) {
        List<Integer> found = new ArrayList<>();
        for (int e = 0; e < 2 * told.beams.size(); e++) {
            if (jointAt(e) == j) {
                found.add(e);
            }
        }
        return found;
    }

    private int first(int e) {
        long sum = 0;
        for (int[] l : told.loads) {
            if (l[0] != e / 2) {
                continue;
            }
            long length = told.beams.get(e / 2)[2];
            long a = l[2];
            long p = l[1];
            long up = a == 0 ? 100 * p * length * length : 100 * p * a * (length - a) * (e % 2 == 0 ? length - a : a);
            long down = a == 0 ? 12 : length * length;
            sum += (e % 2 == 0 ? -up : up) / down;
        }
        return (int) sum;
    }

    private void anew() {
        stepped = new ArrayList<>();
        moments = new int[2 * told.beams.size()];
        for (int e = 0; e < moments.length; e++) {
            moments[e] = first(e);
        }
    }

    private int outOf(int j) {
        return told.joints.get(j)[1] + ends(j).stream().mapToInt(e -> moments[e]).sum();
    }

    private boolean turns(int j) {
        return told.joints.get(j)[0] == 0 && !ends(j).isEmpty();
    }

    private List<Integer> looseByOrder() {
        List<Integer> found = new ArrayList<>();
        for (int j = 0; j < told.joints.size(); j++) {
            if (turns(j) && outOf(j) != 0) {
                found.add(j);
            }
        }
        return found;
    }

    private List<Integer> looseByRank() {
        List<Integer> found = looseByOrder();
        found.sort((a, b) -> Math.abs(outOf(b)) - Math.abs(outOf(a)));
        return found;
    }

    private int turningCount() {
        return (int) told.joints.stream().filter(r -> r[0] == 0).count();
    }

    /** What the ENDS at a JOINT get, in the order of ends(j). */
    private int[] shares(int j) {
        List<Integer> at = ends(j);
        int u = -outOf(j);
        int all = at.stream().mapToInt(this::k).sum();
        int[] got = at.stream().mapToInt(e -> (int) ((long) u * k(e) / all)).toArray();
        int left = u - Arrays.stream(got).sum();
        List<Integer> order = new ArrayList<>();
        for (int n = 0; n < got.length; n++) {
            order.add(n);
        }
        order.sort((a, b) -> k(at.get(b)) - k(at.get(a)));
        for (int n = 0; n < Math.abs(left); n++) {
            got[order.get(n)] += Integer.signum(left);
        }
        return got;
    }

    private void letGo(int j) {
        int[] got = shares(j);
        List<Integer> at = ends(j);
        for (int n = 0; n < got.length; n++) {
            int e = at.get(n);
            moments[e] += got[n];
            moments[e % 2 == 0 ? e + 1 : e - 1] += got[n] / 2;
        }
        stepped.add(j);
    }

    /** By elimination with fractions as {numerator, denominator}. */
    int sure(int e) {
        List<Integer> free = new ArrayList<>();
        for (int j = 0; j < told.joints.size(); j++) {
            if (turns(j)) {
                free.add(j);
            }
        }
        int n = free.size();
        BigInteger[][][] m = new BigInteger[n][n + 1][];
        for (int r = 0; r < n; r++) {
            long[] row = new long[n + 1];
            row[n] = -told.joints.get(free.get(r))[1];
            for (int end : ends(free.get(r))) {
                row[r] += 4L * k(end);
                int other = free.indexOf(jointAt(end % 2 == 0 ? end + 1 : end - 1));
                if (other >= 0) {
                    row[other] += 2L * k(end);
                }
                row[n] -= first(end);
            }
            for (int c = 0; c <= n; c++) {
                m[r][c] = new BigInteger[] {BigInteger.valueOf(row[c]), BigInteger.ONE};
            }
        }
        for (int p = 0; p < n; p++) {
            for (int r = 0; r < n; r++) {
                if (r != p) {
                    BigInteger[] by = times(m[r][p], new BigInteger[] {m[p][p][1], m[p][p][0]});
                    for (int c = 0; c <= n; c++) {
                        m[r][c] = plus(m[r][c], times(m[p][c], new BigInteger[] {by[0].negate(), by[1]}));
                    }
                }
            }
        }
        BigInteger[] sum = {BigInteger.valueOf(first(e)), BigInteger.ONE};
        int[] weights = {4 * k(e), 2 * k(e)};
        int[] joints = {jointAt(e), jointAt(e % 2 == 0 ? e + 1 : e - 1)};
        for (int i = 0; i < 2; i++) {
            int r = free.indexOf(joints[i]);
            if (r >= 0) {
                BigInteger[] x = times(m[r][n], new BigInteger[] {m[r][r][1], m[r][r][0]});
                sum = plus(sum, times(x, new BigInteger[] {BigInteger.valueOf(weights[i]), BigInteger.ONE}));
            }
        }
        BigInteger[] parts = sum[0].divideAndRemainder(sum[1]);
        boolean down = parts[1].signum() * sum[1].signum() < 0;
        return parts[0].subtract(down ? BigInteger.ONE : BigInteger.ZERO).intValueExact();
    }

    private static BigInteger[] times(BigInteger[] a, BigInteger[] b) {
        return lowest(a[0].multiply(b[0]), a[1].multiply(b[1]));
    }

    private static BigInteger[] plus(BigInteger[] a, BigInteger[] b) {
        return lowest(a[0].multiply(b[1]).add(b[0].multiply(a[1])), a[1].multiply(b[1]));
    }

    private static BigInteger[] lowest(BigInteger up, BigInteger down) {
        BigInteger g = up.gcd(down).max(BigInteger.ONE);
        return new BigInteger[] {up.divide(g), down.divide(g)};
    }

    // ---- the calls, by name

    private boolean isJoint(int j) {
        return j >= 0 && j < told.joints.size();
    }

    private boolean isBeam(int b) {
        return b >= 0 && b < told.beams.size();
    }

    private boolean isEnd(int e) {
        return e >= 0 && e < moments.length;
    }

    private int chosen(int way) {
        List<Integer> loose = way == 0 ? looseByRank() : looseByOrder();
        if (loose.isEmpty()) {
            return -4;
        }
        if (way == 1 && !stepped.isEmpty()) {
            int latest = stepped.get(stepped.size() - 1);
            return loose.stream().filter(j -> j > latest).findFirst().orElse(loose.get(0));
        }
        return loose.get(0);
    }

    int call(String name, int... a) {
        switch (name) {
            case "feed":
                if (a[0] < 0 || a[0] > 127) {
                    return -1;
                }
                return tape.length() == 320 ? -3 : tape.append((char) a[0]).length();
            case "end": {
                int had = tape.length();
                if (a[0] < 0 || a[0] > had) {
                    return -1;
                }
                tape.setLength(a[0]);
                return had;
            }
            case "text":
                return text();
            case "fault":
                return textFault;
            case "rule":
                return rule(a[0]);
            case "joint":
                return joint(a[0], a[1]);
            case "out":
                return !isJoint(a[0]) || a[1] < 0 || a[1] > 1 ? 2000000000
                    : a[1] == 0 ? told.joints.get(a[0])[1] : outOf(a[0]);
            case "at":
                return !isJoint(a[0]) || a[1] < 0 ? -1 : a[1] < ends(a[0]).size() ? ends(a[0]).get(a[1]) : -4;
            case "beam":
                return beam(a[0], a[1]);
            case "load":
                return load(a[0], a[1]);
            case "moment":
                return moment(a[0], a[1]);
            case "share":
                return share(a[0], a[1]);
            case "rank":
                return a[0] < 0 ? -1 : a[0] < looseByRank().size() ? looseByRank().get(a[0]) : -4;
            case "next":
                return a[0] < 0 || a[0] > 1 ? -1 : chosen(a[0]);
            case "torn":
                return readFault;
            default:
                return change(name, a);
        }
    }

    private int rule(int what) {
        switch (what) {
            case 0:
                return told.joints.size();
            case 1:
                return turningCount();
            case 2:
                return told.beams.size();
            case 3:
                return told.loads.size();
            case 4:
                return stepped.size();
            case 5:
                return looseByOrder().size();
            case 6:
                return looseByOrder().stream().mapToInt(j -> Math.abs(outOf(j))).sum();
            case 7:
                return stepped.isEmpty() ? -4 : stepped.get(stepped.size() - 1);
            default:
                return -1;
        }
    }

    private int joint(int j, int what) {
        if (!isJoint(j)) {
            return -1;
        }
        switch (what) {
            case 0:
                return told.joints.get(j)[0];
            case 1:
                return ends(j).size();
            case 2:
                return ends(j).stream().mapToInt(this::k).sum();
            case 3:
                return (int) stepped.stream().filter(s -> s == j).count();
            case 4:
                return looseByOrder().contains(j) ? 1 : 0;
            default:
                return -1;
        }
    }

    private int beam(int b, int what) {
        if (!isBeam(b) || what < 0 || what > 5) {
            return -1;
        }
        if (what < 4) {
            return told.beams.get(b)[what];
        }
        return what == 4 ? k(2 * b) : (int) told.loads.stream().filter(l -> l[0] == b).count();
    }

    private int load(int i, int what) {
        if (i < 0 || i >= told.loads.size() || what < 0 || what > 3) {
            return -1;
        }
        int[] l = told.loads.get(i);
        return new int[] {l[0], l[2] > 0 ? 1 : 0, l[1], l[2] > 0 ? l[2] : -4}[what];
    }

    private int moment(int e, int what) {
        if (!isEnd(e) || what < 0 || what > 3) {
            return 2000000000;
        }
        return what == 0 ? first(e) : what == 1 ? moments[e] : what == 2 ? sure(e) : moments[e] - sure(e);
    }

    private int share(int e, int what) {
        if (!isEnd(e) || what < 0 || what > 1 || told.joints.get(jointAt(e))[0] == 1) {
            return 2000000000;
        }
        int got = shares(jointAt(e))[ends(jointAt(e)).indexOf(e)];
        return what == 0 ? got : got / 2;
    }

    private int change(String name, int[] a) {
        switch (name) {
            case "step":
                if (!isJoint(a[0])) {
                    return -1;
                }
                if (!turns(a[0])) {
                    return -2;
                }
                letGo(a[0]);
                return stepped.size();
            case "sweep": {
                if (a[0] < 0 || a[0] > 1 || a[1] < 1 || a[1] > 200) {
                    return -1;
                }
                int done = 0;
                for (; done < a[1] && chosen(a[0]) >= 0; done++) {
                    letGo(chosen(a[0]));
                }
                return done;
            }
            case "begin": {
                int were = stepped.size();
                anew();
                return were;
            }
            case "couple":
                if (!isJoint(a[0]) || a[1] < -9999 || a[1] > 9999) {
                    return -1;
                }
                told.joints.get(a[0])[1] = a[1];
                anew();
                return 1;
            case "hold":
                return hold(a[0], a[1]);
            case "stiffen": {
                if (!isBeam(a[0]) || a[1] < 1 || a[1] > 10) {
                    return -1;
                }
                int was = told.beams.get(a[0])[3];
                told.beams.get(a[0])[3] = a[1];
                anew();
                return was;
            }
            case "put":
                return put(a[0], a[1], a[2]);
            case "lift":
                if (a[0] < 0 || a[0] >= told.loads.size()) {
                    return -1;
                }
                told.loads.remove(a[0]);
                anew();
                return told.loads.size();
            case "fall":
                return fall(a[0], a[1]);
            default:
                return imagesAndSheets(name, a);
        }
    }

    private int hold(int j, int on) {
        if (!isJoint(j) || on < 0 || on > 1) {
            return -1;
        }
        int was = told.joints.get(j)[0];
        if (was - on == 1 && turningCount() == 4) {
            return -3;
        }
        told.joints.get(j)[0] = on;
        anew();
        return was;
    }

    private int put(int b, int p, int a) {
        if (!isBeam(b) || p < 1 || a < 0 || a == 0 && p > 99 || p > 999 || a > told.beams.get(b)[2] - 1) {
            return -1;
        }
        if (told.loads.size() == 8) {
            return -3;
        }
        told.loads.add(new int[] {b, p, a});
        anew();
        return told.loads.size();
    }

    private int fall(int seed, int n) {
        if (n < 1 || n > 8) {
            return -1;
        }
        if (told.beams.isEmpty()) {
            return -2;
        }
        int had = told.loads.size();
        BigInteger s = BigInteger.valueOf(seed);
        for (int i = 0; i < n && told.loads.size() < 8; i++) {
            s = s.multiply(BigInteger.valueOf(1103515245)).add(BigInteger.valueOf(12345)).mod(BigInteger.TWO.pow(32));
            int got = s.shiftRight(16).mod(BigInteger.TWO.pow(15)).intValue();
            int b = got % told.beams.size();
            int a = (got / 16) % told.beams.get(b)[2];
            told.loads.add(new int[] {b, a == 0 ? (got / 8) % 99 + 1 : (got / 8) % 999 + 1, a});
        }
        int came = told.loads.size() - had;
        if (came > 0) {
            anew();
        }
        return came;
    }

    private int imagesAndSheets(String name, int[] a) {
        switch (name) {
            case "keep": {
                if (a[0] < 0 || a[0] > 1) {
                    return -1;
                }
                int was = images[a[0]] == null ? 0 : 1;
                images[a[0]] = told.copy();
                return was;
            }
            case "back":
                if (a[0] < 0 || a[0] > 1) {
                    return -1;
                }
                if (images[a[0]] == null) {
                    return -2;
                }
                told = images[a[0]].copy();
                anew();
                return told.joints.size();
            case "sheet":
                if (a[0] < 0 || a[0] > 3 || a[1] < 0 || a[1] > 2 || a[2] > 40) {
                    return -1;
                }
                if (a[2] < 0) {
                    return -14;
                }
                sheets[a[0]] = a[1] == 0 ? new byte[a[2]] : a[1] == 1 ? new short[a[2]] : new int[a[2]];
                return 1;
            case "lay":
                return lay(a[0], a[1], a[2]);
            case "read":
                return read(a[0], a[1], a[2], a[3]);
            case "count":
                return count(a[0]);
            default:
                throw new IllegalArgumentException(name);
        }
    }

    private int lay(int k, int i, int v) {
        if (k < 0 || k > 3) {
            return -1;
        }
        try {
            if (sheets[k] instanceof byte[] row) {
                row[i] = (byte) v;
            } else if (sheets[k] instanceof short[] row) {
                row[i] = (short) v;
            } else {
                ((int[]) sheets[k])[i] = v;
            }
            return 1;
        } catch (NullPointerException e) {
            return -11;
        } catch (ArrayIndexOutOfBoundsException e) {
            return -12;
        }
    }

    /** The machine itself finds the FAULTS here. */
    private int read(int k, int lane, int f, int n) {
        if (k < 0 || k > 3 || lane < 0 || lane > 2 || n < 0 || n > 20) {
            return -1;
        }
        List<int[]> whole = new ArrayList<>();
        int found = 0;
        try {
            for (int i = 0; i < n; i++) {
                int c = f + 2 * i;
                int[] pair = lane == 0 ? new int[] {((byte[]) sheets[k])[c], ((byte[]) sheets[k])[c + 1]}
                    : lane == 1 ? new int[] {((short[]) sheets[k])[c], ((short[]) sheets[k])[c + 1]}
                    : new int[] {((int[]) sheets[k])[c], ((int[]) sheets[k])[c + 1]};
                if (!isJoint(pair[0]) || pair[1] < -9999 || pair[1] > 9999) {
                    return -20 - i;
                }
                whole.add(pair);
            }
        } catch (NullPointerException e) {
            found = 1;
        } catch (ArrayIndexOutOfBoundsException e) {
            found = 2;
        } catch (ClassCastException e) {
            found = 3;
        }
        readFault = found;
        for (int[] pair : whole) {
            told.joints.get(pair[0])[1] = pair[1];
            anew();
        }
        return whole.size();
    }

    private int count(int what) {
        switch (what) {
            case 0:
                return (int) Arrays.stream(images).filter(i -> i != null).count();
            case 1:
                return tape.length();
            case 2:
                return sheets[0] == null ? -4 : java.lang.reflect.Array.getLength(sheets[0]);
            case 3: {
                int n = 0;
                for (int j = 0; j < told.joints.size(); j++) {
                    n += ends(j).isEmpty() ? 1 : 0;
                }
                return n;
            }
            default:
                return -1;
        }
    }
}
