/**
 * Frames whose joints are brought into balance: beams between joints that turn or are held,
 * loads on them, steps that share what a joint is out of balance by, and the exact answer.
 * The words in capitals are those of the document.
 */
public final class JointMoments {
    public static final int BAD = -1, STATE = -2, FULL = -3, NONE = -4;
    public static final int NOTHING = 2000000000;

    private static final int MOST_BYTES = 320;
    private static final int MOST_JOINTS = 6;
    private static final int MOST_TURNING = 4;
    private static final int MOST_BEAMS = 10;
    private static final int MOST_ENDS = 2 * MOST_BEAMS;
    private static final int MOST_LOADS = 8;
    private static final int MOST_STIFF = 10;
    private static final int MOST_COUPLE = 9999;
    private static final int MOST_POINT = 999;
    private static final int MOST_ALL = 99;
    private static final int LONGEST = 12;
    private static final int MOST_SWEPT = 200;
    private static final int IMAGES = 2;
    private static final int SHEETS = 4;
    private static final int MOST_CELLS = 40;
    private static final int MOST_READ = 20;
    private static final int BYTES = 0, SHORTS = 1, INTS = 2;
    private static final int NO_FAULT = 0, NULL = 1, INDEX = 2, CAST = 3, SIZE = 4;

    private final Tape tape;
    private final Teller teller;
    private final Balance balance;
    private final Equations equations;
    private final Frame[] images;
    private final boolean[] kept;
    private final Sheet[] sheets;
    private Frame frame;
    private Frame draft;
    private int textFault;
    private int readFault;

    public JointMoments() {
        teller = new Teller();
        tape = teller.tape;
        balance = new Balance();
        equations = new Equations();
        frame = new Frame();
        draft = new Frame();
        images = new Frame[IMAGES];
        for (int k = 0; k < IMAGES; k++) {
            images[k] = new Frame();
        }
        kept = new boolean[IMAGES];
        sheets = new Sheet[SHEETS];
        for (int k = 0; k < SHEETS; k++) {
            sheets[k] = new Sheet();
        }
    }

    // ---- the text, what there is

    public int feed(int c) {
        if (c < 0 || c > 127) {
            return BAD;
        }
        if (tape.size >= MOST_BYTES) {
            return FULL;
        }
        tape.append(c);
        return tape.size;
    }

    public int end(int n) {
        if (n < 0 || n > tape.size) {
            return BAD;
        }
        int had = tape.size;
        tape.size = n;
        return had;
    }

    public int text() {
        boolean taken = teller.tell(draft);
        tape.size = 0;
        textFault = teller.fault;
        if (!taken) {
            return -10 - teller.faultPlace;
        }
        // The two frames change places, so that a text needs no new rows.
        Frame old = frame;
        frame = draft;
        draft = old;
        for (int k = 0; k < IMAGES; k++) {
            kept[k] = false;
        }
        balance.anew(frame);
        return teller.lines;
    }

    public int fault() {
        return textFault;
    }

    public int rule(int what) {
        switch (what) {
            case 0:
                return frame.joints;
            case 1:
                return frame.turning();
            case 2:
                return frame.beams;
            case 3:
                return frame.loads;
            case 4:
                return balance.steps;
            case 5:
                return balance.loose(frame);
            case 6:
                return balance.left(frame);
            case 7:
                return balance.latest;
            default:
                return BAD;
        }
    }

    public int joint(int j, int what) {
        if (!frame.isJoint(j)) {
            return BAD;
        }
        switch (what) {
            case 0:
                return frame.held[j] ? 1 : 0;
            case 1:
                return balance.endsAt[j];
            case 2:
                return balance.stiffAt[j];
            case 3:
                return balance.stepsAt[j];
            case 4:
                return balance.isLoose(frame, j) ? 1 : 0;
            default:
                return BAD;
        }
    }

    public int out(int j, int what) {
        if (!frame.isJoint(j)) {
            return NOTHING;
        }
        switch (what) {
            case 0:
                return frame.couples[j];
            case 1:
                return balance.outs[j];
            default:
                return NOTHING;
        }
    }

    public int at(int j, int i) {
        if (!frame.isJoint(j) || i < 0) {
            return BAD;
        }
        int ahead = 0;
        for (int e = 0; e < 2 * frame.beams; e++) {
            if (frame.jointOf(e) != j) {
                continue;
            }
            if (ahead == i) {
                return e;
            }
            ahead++;
        }
        return NONE;
    }

    public int beam(int b, int what) {
        if (!frame.isBeam(b)) {
            return BAD;
        }
        switch (what) {
            case 0:
                return frame.jointOf(2 * b);
            case 1:
                return frame.jointOf(2 * b + 1);
            case 2:
                return frame.lengths[b];
            case 3:
                return frame.stiffs[b];
            case 4:
                return frame.stiffness(b);
            case 5:
                return frame.loadsOn(b);
            default:
                return BAD;
        }
    }

    public int load(int i, int what) {
        if (!frame.isLoad(i)) {
            return BAD;
        }
        boolean point = frame.loadPlaces[i] > 0;
        switch (what) {
            case 0:
                return frame.loadBeams[i];
            case 1:
                return point ? 1 : 0;
            case 2:
                return frame.loadSizes[i];
            case 3:
                return point ? frame.loadPlaces[i] : NONE;
            default:
                return BAD;
        }
    }

    // ---- moments

    public int moment(int e, int what) {
        if (!frame.isEnd(e)) {
            return NOTHING;
        }
        switch (what) {
            case 0:
                return frame.first(e);
            case 1:
                return balance.moments[e];
            case 2:
                return equations.sure(frame, e);
            case 3:
                return balance.moments[e] - equations.sure(frame, e);
            default:
                return NOTHING;
        }
    }

    public int share(int e, int what) {
        if (!frame.isEnd(e) || what < 0 || what > 1) {
            return NOTHING;
        }
        int j = frame.jointOf(e);
        if (frame.held[j]) {
            return NOTHING;
        }
        balance.shareOut(frame, j);
        return what == 0 ? balance.gains[e] : balance.gains[e] / 2;
    }

    public int rank(int i) {
        return i < 0 ? BAD : balance.ranked(frame, i);
    }

    public int next(int way) {
        return isWay(way) ? balance.chosen(frame, way) : BAD;
    }

    // ---- steps

    public int step(int j) {
        if (!frame.isJoint(j)) {
            return BAD;
        }
        if (!balance.canTurn(frame, j)) {
            return STATE;
        }
        balance.letGo(frame, j);
        return balance.steps;
    }

    public int sweep(int way, int n) {
        if (!isWay(way) || n < 1 || n > MOST_SWEPT) {
            return BAD;
        }
        for (int done = 0; done < n; done++) {
            int j = balance.chosen(frame, way);
            if (j < 0) {
                return done;
            }
            balance.letGo(frame, j);
        }
        return n;
    }

    public int begin() {
        int were = balance.steps;
        balance.anew(frame);
        return were;
    }

    // ---- what is changed

    public int couple(int j, int c) {
        if (!mayCouple(j, c)) {
            return BAD;
        }
        frame.couples[j] = c;
        balance.anew(frame);
        return 1;
    }

    public int hold(int j, int on) {
        if (!frame.isJoint(j) || on < 0 || on > 1) {
            return BAD;
        }
        boolean was = frame.held[j];
        if (was && on == 0 && frame.turning() >= MOST_TURNING) {
            return FULL;
        }
        frame.held[j] = on == 1;
        balance.anew(frame);
        return was ? 1 : 0;
    }

    public int stiffen(int b, int v) {
        if (!frame.isBeam(b) || v < 1 || v > MOST_STIFF) {
            return BAD;
        }
        int was = frame.stiffs[b];
        frame.stiffs[b] = v;
        balance.anew(frame);
        return was;
    }

    public int put(int b, int p, int a) {
        if (!frame.isBeam(b) || a < 0 || a >= frame.lengths[b]) {
            return BAD;
        }
        if (p < 1 || p > (a == 0 ? MOST_ALL : MOST_POINT)) {
            return BAD;
        }
        if (frame.loads >= MOST_LOADS) {
            return FULL;
        }
        frame.addLoad(b, p, a);
        balance.anew(frame);
        return frame.loads;
    }

    public int lift(int i) {
        if (!frame.isLoad(i)) {
            return BAD;
        }
        frame.removeLoad(i);
        balance.anew(frame);
        return frame.loads;
    }

    public int fall(int seed, int n) {
        if (n < 1 || n > MOST_LOADS) {
            return BAD;
        }
        if (frame.beams == 0) {
            return STATE;
        }
        int grown = seed;
        int came = 0;
        while (came < n && frame.loads < MOST_LOADS) {
            grown = grown * 1103515245 + 12345;
            frame.drop((grown >>> 16) & 0x7fff);
            came++;
        }
        if (came > 0) {
            balance.anew(frame);
        }
        return came;
    }

    // ---- images, sheets

    public int keep(int k) {
        if (!isImage(k)) {
            return BAD;
        }
        int was = kept[k] ? 1 : 0;
        images[k].copy(frame);
        kept[k] = true;
        return was;
    }

    public int back(int k) {
        if (!isImage(k)) {
            return BAD;
        }
        if (!kept[k]) {
            return STATE;
        }
        frame.copy(images[k]);
        balance.anew(frame);
        return frame.joints;
    }

    public int sheet(int k, int lane, int n) {
        if (!isSheet(k) || !isLane(lane) || n > MOST_CELLS) {
            return BAD;
        }
        if (n < 0) {
            return -10 - SIZE;
        }
        sheets[k].renew(lane, n);
        return 1;
    }

    public int lay(int k, int i, int v) {
        if (!isSheet(k)) {
            return BAD;
        }
        Sheet row = sheets[k];
        int found = row.faultAt(row.lane, i);
        if (found != NO_FAULT) {
            return -10 - found;
        }
        row.write(i, v);
        return 1;
    }

    public int read(int k, int lane, int f, int n) {
        if (!isSheet(k) || !isLane(lane) || n < 0 || n > MOST_READ) {
            return BAD;
        }
        Sheet row = sheets[k];
        int found = NO_FAULT;
        int whole = 0;
        // None may come when a later one is refused, so all are looked at ahead of the first change.
        while (whole < n) {
            int cell = f + 2 * whole;
            found = row.faultOfTwo(lane, cell);
            if (found != NO_FAULT) {
                break;
            }
            if (!mayCouple(row.cells[cell], row.cells[cell + 1])) {
                return -20 - whole;
            }
            whole++;
        }
        readFault = found;
        takeCouples(row, f, whole);
        return whole;
    }

    public int torn() {
        return readFault;
    }

    public int count(int what) {
        switch (what) {
            case 0:
                return (kept[0] ? 1 : 0) + (kept[1] ? 1 : 0);
            case 1:
                return tape.size;
            case 2:
                return sheets[0].size < 0 ? NONE : sheets[0].size;
            case 3:
                return balance.bare(frame);
            default:
                return BAD;
        }
    }

    private boolean mayCouple(int j, int c) {
        return frame.isJoint(j) && c >= -MOST_COUPLE && c <= MOST_COUPLE;
    }

    /** The pairs have been looked at: each is whole, and couple() would take it. */
    private void takeCouples(Sheet row, int f, int pairs) {
        for (int i = 0; i < pairs; i++) {
            frame.couples[row.cells[f + 2 * i]] = row.cells[f + 2 * i + 1];
        }
        if (pairs > 0) {
            balance.anew(frame);
        }
    }

    private static boolean isWay(int way) {
        return way == 0 || way == 1;
    }

    private static boolean isImage(int k) {
        return k >= 0 && k < IMAGES;
    }

    private static boolean isSheet(int k) {
        return k >= 0 && k < SHEETS;
    }

    private static boolean isLane(int lane) {
        return lane >= BYTES && lane <= INTS;
    }

    /** The bytes of a text that is still being fed. */
    private static final class Tape {
        final byte[] bytes = new byte[MOST_BYTES];
        int size;

        void append(int c) {
            if (size < MOST_BYTES) {
                bytes[size] = (byte) c;
                size++;
            }
        }
    }

    /** JOINTS, BEAMS and LOADS: what a text tells and an IMAGE keeps. */
    private static final class Frame {
        final boolean[] held = new boolean[MOST_JOINTS];
        final int[] couples = new int[MOST_JOINTS];
        final int[] endJoints = new int[MOST_ENDS];
        final int[] lengths = new int[MOST_BEAMS];
        final int[] stiffs = new int[MOST_BEAMS];
        final int[] loadBeams = new int[MOST_LOADS];
        final int[] loadSizes = new int[MOST_LOADS];
        /** A of a point; 0 where the load is on all of its BEAM. */
        final int[] loadPlaces = new int[MOST_LOADS];
        int joints;
        int beams;
        int loads;

        boolean isJoint(int j) {
            return j >= 0 && j < joints;
        }

        boolean isBeam(int b) {
            return b >= 0 && b < beams;
        }

        boolean isEnd(int e) {
            return e >= 0 && e < 2 * beams;
        }

        boolean isLoad(int i) {
            return i >= 0 && i < loads;
        }

        void clear() {
            joints = 0;
            beams = 0;
            loads = 0;
        }

        void copy(Frame other) {
            joints = other.joints;
            beams = other.beams;
            loads = other.loads;
            for (int j = 0; j < MOST_JOINTS; j++) {
                held[j] = other.held[j];
            }
            System.arraycopy(other.couples, 0, couples, 0, MOST_JOINTS);
            System.arraycopy(other.endJoints, 0, endJoints, 0, MOST_ENDS);
            System.arraycopy(other.lengths, 0, lengths, 0, MOST_BEAMS);
            System.arraycopy(other.stiffs, 0, stiffs, 0, MOST_BEAMS);
            System.arraycopy(other.loadBeams, 0, loadBeams, 0, MOST_LOADS);
            System.arraycopy(other.loadSizes, 0, loadSizes, 0, MOST_LOADS);
            System.arraycopy(other.loadPlaces, 0, loadPlaces, 0, MOST_LOADS);
        }

        void addJoint(boolean isHeld, int c) {
            if (joints < MOST_JOINTS) {
                held[joints] = isHeld;
                couples[joints] = c;
                joints++;
            }
        }

        void addBeam(int from, int to, int length, int stiff) {
            if (beams < MOST_BEAMS) {
                endJoints[2 * beams] = from;
                endJoints[2 * beams + 1] = to;
                lengths[beams] = length;
                stiffs[beams] = stiff;
                beams++;
            }
        }

        void addLoad(int b, int size, int place) {
            if (loads < MOST_LOADS) {
                loadBeams[loads] = b;
                loadSizes[loads] = size;
                loadPlaces[loads] = place;
                loads++;
            }
        }

        void removeLoad(int i) {
            for (int n = i + 1; n < loads; n++) {
                loadBeams[n - 1] = loadBeams[n];
                loadSizes[n - 1] = loadSizes[n];
                loadPlaces[n - 1] = loadPlaces[n];
            }
            loads--;
        }

        /** A LOAD as what was got by a seed (0 to 32767) tells it. */
        void drop(int got) {
            if (beams < 1) {
                return;
            }
            int b = got % beams;
            int length = lengths[b];
            if (length < 1) {
                return;
            }
            int place = got / 16 % length;
            int size = got / 8 % (place == 0 ? MOST_ALL : MOST_POINT) + 1;
            addLoad(b, size, place);
        }

        int turning() {
            int n = 0;
            for (int j = 0; j < joints; j++) {
                if (!held[j]) {
                    n++;
                }
            }
            return n;
        }

        int jointOf(int e) {
            return endJoints[e];
        }

        /** The ENDS of a BEAM are 2 b and 2 b + 1. */
        int otherEnd(int e) {
            return e ^ 1;
        }

        /** K; whole, as each LENGTH divides 12. */
        int stiffness(int b) {
            return lengths[b] < 1 ? 0 : LONGEST * stiffs[b] / lengths[b];
        }

        int loadsOn(int b) {
            int n = 0;
            for (int i = 0; i < loads; i++) {
                if (loadBeams[i] == b) {
                    n++;
                }
            }
            return n;
        }

        int first(int e) {
            int sum = 0;
            for (int i = 0; i < loads; i++) {
                if (loadBeams[i] == e / 2) {
                    sum += e % 2 == 0 ? -pressed(i, true) : pressed(i, false);
                }
            }
            return sum;
        }

        /** What a LOAD presses at an END of its BEAM, without sign. */
        private int pressed(int i, boolean atFirst) {
            int length = lengths[loadBeams[i]];
            if (length < 1) {
                return 0;
            }
            int place = loadPlaces[i];
            if (place == 0) {
                return 100 * loadSizes[i] * length * length / 12;
            }
            int rest = length - place;
            int far = atFirst ? rest : place;
            return 100 * loadSizes[i] * place * rest * far / (length * length);
        }

        /** Whether all that is told is there: JOINTS of BEAMS, BEAMS of LOADS, places on them. */
        boolean isWhole() {
            for (int e = 0; e < 2 * beams; e++) {
                if (!isJoint(endJoints[e])) {
                    return false;
                }
            }
            for (int i = 0; i < loads; i++) {
                if (!isBeam(loadBeams[i]) || loadPlaces[i] >= lengths[loadBeams[i]]) {
                    return false;
                }
            }
            return true;
        }
    }

    /** Reads THE TAPE into a Frame, up to the first FAULT. */
    private static final class Teller {
        private static final int END = 0, NAME = 1, NUMBER = 2, MINUS = 3, SEMICOLON = 4;
        private static final int NO_TOKEN = 1, MISPLACED = 2, OUT_OF_BOUNDS = 3, SAME_JOINT = 4, TOO_MANY = 5,
            NOT_THERE = 6;
        private static final int MOST_FIGURES = 4;

        final Tape tape = new Tape();
        int lines;
        int fault;
        int faultPlace;
        private int kind;
        private int start;
        private int stop;
        private int value;

        boolean tell(Frame frame) {
            frame.clear();
            lines = 0;
            fault = NO_FAULT;
            faultPlace = 0;
            stop = 0;
            // A line takes a byte at least, so there are never more of them than bytes.
            while (lines <= tape.size) {
                if (!scan()) {
                    return false;
                }
                if (kind == END) {
                    break;
                }
                if (!line(frame)) {
                    return false;
                }
                lines++;
            }
            return frame.isWhole() || fail(NOT_THERE, tape.size);
        }

        private boolean fail(int code, int place) {
            fault = code;
            faultPlace = place;
            return false;
        }

        private boolean line(Frame frame) {
            if (kind == NAME && isWord("turn")) {
                return jointLine(frame, false);
            }
            if (kind == NAME && isWord("hold")) {
                return jointLine(frame, true);
            }
            if (kind == NAME && isWord("beam")) {
                return beamLine(frame);
            }
            if (kind == NAME && isWord("point")) {
                return loadLine(frame, true);
            }
            if (kind == NAME && isWord("all")) {
                return loadLine(frame, false);
            }
            return fail(MISPLACED, start);
        }

        private boolean jointLine(Frame frame, boolean isHeld) {
            if (frame.joints >= MOST_JOINTS || !isHeld && frame.turning() >= MOST_TURNING) {
                return fail(TOO_MANY, start);
            }
            if (!scan()) {
                return false;
            }
            boolean below = kind == MINUS;
            if (below && !scan()) {
                return false;
            }
            if (!isNumber(0, MOST_COUPLE)) {
                return false;
            }
            int c = below ? -value : value;
            if (!semicolon()) {
                return false;
            }
            frame.addJoint(isHeld, c);
            return true;
        }

        private boolean beamLine(Frame frame) {
            if (frame.beams >= MOST_BEAMS) {
                return fail(TOO_MANY, start);
            }
            if (!number(0, MOST_JOINTS - 1)) {
                return false;
            }
            int from = value;
            if (!number(0, MOST_JOINTS - 1)) {
                return false;
            }
            int to = value;
            if (to == from) {
                return fail(SAME_JOINT, start);
            }
            if (!number(1, LONGEST)) {
                return false;
            }
            int length = value;
            // 1, 2, 3, 4, 6 and 12 are just the numbers that divide 12.
            if (length < 1 || LONGEST % length != 0) {
                return fail(OUT_OF_BOUNDS, start);
            }
            if (!number(1, MOST_STIFF)) {
                return false;
            }
            int stiff = value;
            if (!semicolon()) {
                return false;
            }
            frame.addBeam(from, to, length, stiff);
            return true;
        }

        private boolean loadLine(Frame frame, boolean point) {
            if (frame.loads >= MOST_LOADS) {
                return fail(TOO_MANY, start);
            }
            if (!number(0, MOST_BEAMS - 1)) {
                return false;
            }
            int b = value;
            if (!number(1, point ? MOST_POINT : MOST_ALL)) {
                return false;
            }
            int size = value;
            if (point && !number(1, LONGEST - 1)) {
                return false;
            }
            int place = point ? value : 0;
            if (!semicolon()) {
                return false;
            }
            frame.addLoad(b, size, place);
            return true;
        }

        private boolean number(int low, int high) {
            return scan() && isNumber(low, high);
        }

        private boolean semicolon() {
            return scan() && (kind == SEMICOLON || fail(MISPLACED, start));
        }

        /** Whether the TOKEN that was read is a NUMBER in its bounds. */
        private boolean isNumber(int low, int high) {
            if (kind != NUMBER) {
                return fail(MISPLACED, start);
            }
            return value >= low && value <= high || fail(OUT_OF_BOUNDS, start);
        }

        /** Reads the TOKEN behind the one before; no sooner, as a FAULT of that one comes first. */
        private boolean scan() {
            start = stop;
            while (start < tape.size && tape.bytes[start] == ' ') {
                start++;
            }
            stop = start;
            if (start >= tape.size) {
                kind = END;
                return true;
            }
            byte c = tape.bytes[start];
            if (c >= 'a' && c <= 'z') {
                kind = NAME;
                stop = behindRun('a', 'z');
                return true;
            }
            if (c >= '0' && c <= '9') {
                kind = NUMBER;
                stop = behindRun('0', '9');
                return stop - start <= MOST_FIGURES ? reckon() : fail(NO_TOKEN, start);
            }
            if (c != '-' && c != ';') {
                return fail(NO_TOKEN, start);
            }
            kind = c == '-' ? MINUS : SEMICOLON;
            stop = start + 1;
            return true;
        }

        /** The place behind the bytes from low to high that follow one another from the start on. */
        private int behindRun(int low, int high) {
            int place = start;
            while (place < tape.size && tape.bytes[place] >= low && tape.bytes[place] <= high) {
                place++;
            }
            return place;
        }

        /** The value of the figures from start to stop, of which there are few. */
        private boolean reckon() {
            value = 0;
            for (int place = start; place < stop; place++) {
                value = 10 * value + tape.bytes[place] - '0';
            }
            return true;
        }

        private boolean isWord(String word) {
            if (stop - start != word.length()) {
                return false;
            }
            for (int i = 0; i < word.length(); i++) {
                if (tape.bytes[start + i] != word.charAt(i)) {
                    return false;
                }
            }
            return true;
        }
    }

    /** MOMENTS and STEPS of a Frame; whoever changes the Frame calls anew(). */
    private static final class Balance {
        final int[] moments = new int[MOST_ENDS];
        final int[] gains = new int[MOST_ENDS];
        final boolean[] topped = new boolean[MOST_ENDS];
        final int[] endStiffs = new int[MOST_ENDS];
        final int[] outs = new int[MOST_JOINTS];
        final int[] endsAt = new int[MOST_JOINTS];
        final int[] stiffAt = new int[MOST_JOINTS];
        final int[] stepsAt = new int[MOST_JOINTS];
        int steps;
        int latest = NONE;

        void anew(Frame frame) {
            steps = 0;
            latest = NONE;
            for (int j = 0; j < MOST_JOINTS; j++) {
                endsAt[j] = 0;
                stiffAt[j] = 0;
                stepsAt[j] = 0;
                outs[j] = frame.couples[j];
            }
            for (int e = 0; e < 2 * frame.beams; e++) {
                int j = frame.jointOf(e);
                endStiffs[e] = frame.stiffness(e / 2);
                moments[e] = frame.first(e);
                endsAt[j]++;
                stiffAt[j] += endStiffs[e];
                outs[j] += moments[e];
            }
        }

        boolean canTurn(Frame frame, int j) {
            return !frame.held[j] && endsAt[j] > 0;
        }

        boolean isLoose(Frame frame, int j) {
            return canTurn(frame, j) && outs[j] != 0;
        }

        int loose(Frame frame) {
            int n = 0;
            for (int j = 0; j < frame.joints; j++) {
                if (isLoose(frame, j)) {
                    n++;
                }
            }
            return n;
        }

        int left(Frame frame) {
            int sum = 0;
            for (int j = 0; j < frame.joints; j++) {
                if (canTurn(frame, j)) {
                    sum += Math.abs(outs[j]);
                }
            }
            return sum;
        }

        int bare(Frame frame) {
            int n = 0;
            for (int j = 0; j < frame.joints; j++) {
                if (endsAt[j] == 0) {
                    n++;
                }
            }
            return n;
        }

        /** The JOINT of the next STEP, NONE if none is LOOSE. */
        int chosen(Frame frame, int way) {
            return way == 0 ? worst(frame) : byTurns(frame);
        }

        private int worst(Frame frame) {
            int found = NONE;
            int most = 0;
            for (int j = 0; j < frame.joints; j++) {
                if (canTurn(frame, j) && Math.abs(outs[j]) > most) {
                    found = j;
                    most = Math.abs(outs[j]);
                }
            }
            return found;
        }

        private int byTurns(Frame frame) {
            int from = latest < 0 ? 0 : latest + 1;
            for (int n = 0; n < frame.joints; n++) {
                int j = (from + n) % frame.joints;
                if (isLoose(frame, j)) {
                    return j;
                }
            }
            return NONE;
        }

        int ranked(Frame frame, int i) {
            for (int j = 0; j < frame.joints; j++) {
                if (isLoose(frame, j) && looseAhead(frame, j) == i) {
                    return j;
                }
            }
            return NONE;
        }

        private int looseAhead(Frame frame, int j) {
            int mine = Math.abs(outs[j]);
            int n = 0;
            for (int other = 0; other < frame.joints; other++) {
                int its = Math.abs(outs[other]);
                if (isLoose(frame, other) && (its > mine || its == mine && other < j)) {
                    n++;
                }
            }
            return n;
        }

        /** Fills gains of the ENDS at a JOINT with what each gets in a STEP there. */
        void shareOut(Frame frame, int j) {
            int all = stiffAt[j];
            if (all < 1) {
                return;
            }
            long turned = -(long) outs[j];
            int rest = (int) turned;
            for (int e = 0; e < 2 * frame.beams; e++) {
                if (frame.jointOf(e) == j) {
                    gains[e] = (int) (turned * endStiffs[e] / all);
                    topped[e] = false;
                    rest -= gains[e];
                }
            }
            int one = rest < 0 ? -1 : 1;
            // Each END gets one of the rest at most: it is smaller than the number of ENDS.
            for (int n = 0; n < MOST_ENDS && rest != 0; n++) {
                int e = stiffestBare(frame, j);
                if (e < 0) {
                    break;
                }
                gains[e] += one;
                topped[e] = true;
                rest -= one;
            }
        }

        private int stiffestBare(Frame frame, int j) {
            int found = NONE;
            int most = 0;
            for (int e = 0; e < 2 * frame.beams; e++) {
                if (frame.jointOf(e) == j && !topped[e] && endStiffs[e] > most) {
                    found = e;
                    most = endStiffs[e];
                }
            }
            return found;
        }

        /** A STEP at a JOINT that can turn. */
        void letGo(Frame frame, int j) {
            shareOut(frame, j);
            for (int e = 0; e < 2 * frame.beams; e++) {
                if (frame.jointOf(e) == j) {
                    comeTo(frame, e, gains[e]);
                    comeTo(frame, frame.otherEnd(e), gains[e] / 2);
                }
            }
            stepsAt[j]++;
            steps++;
            latest = j;
        }

        private void comeTo(Frame frame, int e, int gain) {
            moments[e] += gain;
            outs[frame.jointOf(e)] += gain;
        }
    }

    /**
     * The equations of the exact answer, by Cramer's rule over Y = 2 X. All is whole: with at most ten
     * BEAMS of K up to 120 and FIRST up to some two millions in all, determinants stay below 2.1e12,
     * numerators below 1.1e16, and what is divided at last below 6.6e18, so a long holds them.
     */
    private static final class Equations {
        /** One column more than unknowns: the right side. */
        final long[][] sides = new long[MOST_TURNING][MOST_TURNING + 1];
        /** The number of the unknown of a JOINT, below 0 where its X is 0. */
        final int[] unknowns = new int[MOST_JOINTS];
        int size;

        int sure(Frame frame, int e) {
            write(frame);
            long whole = determinant(sides, size, NONE, 0, 0);
            int first = frame.first(e);
            if (whole < 1) {
                return first;
            }
            long mine = numerator(frame.jointOf(e));
            long others = numerator(frame.jointOf(frame.otherEnd(e)));
            long sum = first * whole + frame.stiffness(e / 2) * (2 * mine + others);
            return (int) Math.floorDiv(sum, whole);
        }

        private void write(Frame frame) {
            number(frame);
            for (int e = 0; e < 2 * frame.beams; e++) {
                int row = unknowns[frame.jointOf(e)];
                if (row < 0) {
                    continue;
                }
                int k = frame.stiffness(e / 2);
                int other = unknowns[frame.jointOf(frame.otherEnd(e))];
                sides[row][row] += 2 * k;
                if (other >= 0) {
                    sides[row][other] += k;
                }
                sides[row][MOST_TURNING] -= frame.first(e);
            }
        }

        /** Numbers the unknowns and begins their rows with the COUPLES. */
        private void number(Frame frame) {
            size = 0;
            for (int j = 0; j < frame.joints; j++) {
                unknowns[j] = NONE;
                if (frame.held[j] || !hasEnds(frame, j) || size >= MOST_TURNING) {
                    continue;
                }
                for (int column = 0; column < MOST_TURNING; column++) {
                    sides[size][column] = 0;
                }
                sides[size][MOST_TURNING] = -frame.couples[j];
                unknowns[j] = size;
                size++;
            }
        }

        private static boolean hasEnds(Frame frame, int j) {
            for (int e = 0; e < 2 * frame.beams; e++) {
                if (frame.jointOf(e) == j) {
                    return true;
                }
            }
            return false;
        }

        /** Y of a JOINT times the determinant. */
        private long numerator(int j) {
            return unknowns[j] < 0 ? 0 : determinant(sides, size, unknowns[j], 0, 0);
        }

        /** Of the rows from one on and the columns not taken, the swapped one being the right side. */
        private static long determinant(long[][] rows, int size, int swapped, int row, int taken) {
            if (row >= size) {
                return 1;
            }
            long sum = 0;
            boolean minus = false;
            for (int column = 0; column < size; column++) {
                if ((taken >> column & 1) != 0) {
                    continue;
                }
                long cell = rows[row][column == swapped ? MOST_TURNING : column];
                if (cell != 0) {
                    long part = cell * determinant(rows, size, swapped, row + 1, taken | 1 << column);
                    sum += minus ? -part : part;
                }
                minus = !minus;
            }
            return sum;
        }
    }

    /** A row of CELLS of a lane, or nothing; each CELL is held as an int that fits the lane. */
    private static final class Sheet {
        final int[] cells = new int[MOST_CELLS];
        int lane;
        int size = -1;

        void renew(int newLane, int newSize) {
            lane = newLane;
            size = newSize;
            for (int i = 0; i < MOST_CELLS; i++) {
                cells[i] = 0;
            }
        }

        void write(int i, int v) {
            cells[i] = lane == BYTES ? (byte) v : lane == SHORTS ? (short) v : v;
        }

        /** What the machine finds when CELL i is asked of the row taken as of a lane. */
        int faultAt(int asLane, int i) {
            if (size < 0) {
                return NULL;
            }
            if (asLane != lane) {
                return CAST;
            }
            return i < 0 || i >= size ? INDEX : NO_FAULT;
        }

        int faultOfTwo(int asLane, int i) {
            int found = faultAt(asLane, i);
            return found != NO_FAULT ? found : faultAt(asLane, i + 1);
        }
    }
}
