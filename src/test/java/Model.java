import java.util.ArrayList;
import java.util.List;

/**
 * The document's words once more, as plainly as can be and in another way than the program: found,
 * seen and refined are held apart, neighbours are asked for one by one, and telling and reading are
 * written separately. Random runs compare the program with it.
 */
final class Model {
    private static final class BitsLack extends RuntimeException {
        private static final long serialVersionUID = 1L;
    }

    /** What is known of the block while it is told or read. */
    private final class State {
        boolean[][] found = new boolean[height][width];
        boolean[][] seen = new boolean[height][width];
        boolean[][] refined = new boolean[height][width];
        boolean[][] negative = new boolean[height][width];
        int[][] size = new int[height][width];
        int[][] low = new int[height][width];

        State(int planes) {
            for (int[] row : low) {
                java.util.Arrays.fill(row, planes);
            }
        }

        State(State other) {
            for (int y = 0; y < height; y++) {
                found[y] = other.found[y].clone();
                seen[y] = other.seen[y].clone();
                refined[y] = other.refined[y].clone();
                negative[y] = other.negative[y].clone();
                size[y] = other.size[y].clone();
                low[y] = other.low[y].clone();
            }
        }

        boolean isFound(int fromY, int x, int y) {
            if (x < 0 || y < 0 || x >= width || y >= height) {
                return false;
            }
            if ((style & 8) != 0 && y / 4 > fromY / 4) {
                return false;
            }
            return found[y][x];
        }

        int one(int fromY, int x, int y) {
            return isFound(fromY, x, y) ? 1 : 0;
        }

        int sign(int fromY, int x, int y) {
            return !isFound(fromY, x, y) ? 0 : negative[y][x] ? -1 : 1;
        }

        int neighbours(int x, int y) {
            int sum = 0;
            for (int dy = -1; dy <= 1; dy++) {
                for (int dx = -1; dx <= 1; dx++) {
                    sum += dx == 0 && dy == 0 ? 0 : one(y, x + dx, y + dy);
                }
            }
            return sum;
        }

        int context(int x, int y) {
            int h = one(y, x - 1, y) + one(y, x + 1, y);
            int v = one(y, x, y - 1) + one(y, x, y + 1);
            int d = neighbours(x, y) - h - v;
            if (band == 2) {
                int s = h + v;
                switch (d) {
                    case 0: return s > 1 ? 2 : s;
                    case 1: return s > 1 ? 5 : 3 + s;
                    case 2: return s > 0 ? 7 : 6;
                    default: return 8;
                }
            }
            if (band == 1) {
                int other = h;
                h = v;
                v = other;
            }
            switch (h) {
                case 2: return 8;
                case 1: return v > 0 ? 7 : d > 0 ? 6 : 5;
                default: return v == 2 ? 4 : v == 1 ? 3 : d > 1 ? 2 : d;
            }
        }

        /** The context of a sign, and whether its bit is turned. */
        int[] signContext(int x, int y) {
            int a = Integer.signum(sign(y, x - 1, y) + sign(y, x + 1, y));
            int b = Integer.signum(sign(y, x, y - 1) + sign(y, x, y + 1));
            boolean turned = a < 0 || (a == 0 && b < 0);
            if (turned) {
                a = -a;
                b = -b;
            }
            return new int[] {a == 1 ? 12 + b : 9 + b, turned ? 1 : 0};
        }

        int refiningContext(int x, int y) {
            return refined[y][x] ? 16 : neighbours(x, y) == 0 ? 14 : 15;
        }

        boolean isRun(int x, int top) {
            if (top + 4 > height) {
                return false;
            }
            for (int y = top; y < top + 4; y++) {
                if (found[y][x] || seen[y][x] || context(x, y) != 0) {
                    return false;
                }
            }
            return true;
        }

        void nothingSeen() {
            for (boolean[] row : seen) {
                java.util.Arrays.fill(row, false);
            }
        }

        void learn(int x, int y, int plane, int bit) {
            size[y][x] += bit << plane;
            low[y][x] = plane;
        }
    }

    final int width;
    final int height;
    final int style;
    final int band;
    int[][] samples;

    List<int[]> row = new ArrayList<>();
    List<Integer> lengths = new ArrayList<>();
    List<Long> distortions = new ArrayList<>();
    int passes = 0;

    List<Integer> toRead = new ArrayList<>();
    private int next;
    int[][] value;
    int[][] low;

    Model(int width, int height, int style, int band) {
        this.width = nearest(width, 1, 16);
        this.height = nearest(height, 1, 16);
        this.style = nearest(style, 0, 31);
        this.band = nearest(band, 0, 2);
        clear();
    }

    private static int nearest(int n, int least, int most) {
        return n < least ? least : n > most ? most : n;
    }

    private boolean has(int styleBit) {
        return (style & styleBit) != 0;
    }

    private void sample(int x, int y) {
        if (x < 0 || y < 0 || x >= width || y >= height) {
            throw new IndexOutOfBoundsException();
        }
    }

    private void onePass(int pass) {
        if (pass < 0 || pass >= passes) {
            throw new IndexOutOfBoundsException();
        }
    }

    int put(int x, int y, int v) {
        sample(x, y);
        if (v < -32767 || v > 32767) {
            throw new IllegalArgumentException();
        }
        int before = samples[y][x];
        samples[y][x] = v;
        return before;
    }

    int paint(int v, int step) {
        int others = 0;
        for (int i = 0; i < width * height; i++) {
            int value = nearest(v + i * step, -32767, 32767);
            if (put(i % width, i / width, value) != value) {
                others++;
            }
        }
        return others;
    }

    private int planes() {
        int largest = 0;
        for (int[] line : samples) {
            for (int v : line) {
                largest = Math.max(largest, Math.abs(v));
            }
        }
        return 32 - Integer.numberOfLeadingZeros(largest);
    }

    int encode() {
        int planes = planes();
        State state = new State(planes);
        row.clear();
        lengths.clear();
        distortions.clear();
        passes = 0;
        for (int plane = planes - 1; plane >= 0; plane--) {
            state.nothingSeen();
            if (plane < planes - 1) {
                tellFinding(state, plane);
                endPass(state);
                tellRefining(state, plane);
                endPass(state);
            }
            tellCleanup(state, plane);
            endPass(state);
        }
        return passes;
    }

    private void endPass(State state) {
        passes++;
        lengths.add(row.size());
        long sum = 0;
        for (int y = 0; y < height; y++) {
            for (int x = 0; x < width; x++) {
                long unknown = Math.abs(samples[y][x]) % (1L << state.low[y][x]);
                sum += unknown * unknown;
            }
        }
        distortions.add(sum);
    }

    private boolean rawPass(int pass) {
        return has(1) && pass >= 10 && kindOf(pass) != 2;
    }

    private void tell(int bit, int context) {
        row.add(new int[] {bit, rawPass(passes) ? 19 : context, passes});
    }

    private int sizeBit(int x, int y, int plane) {
        return Math.abs(samples[y][x]) >> plane & 1;
    }

    private void tellSample(State state, int x, int y, int plane) {
        int bit = sizeBit(x, y, plane);
        tell(bit, state.context(x, y));
        state.learn(x, y, plane, bit);
        if (bit == 1) {
            tellSign(state, x, y);
        }
    }

    private void tellSign(State state, int x, int y) {
        int[] sign = state.signContext(x, y);
        boolean below = samples[y][x] < 0;
        boolean turned = sign[1] == 1 && !rawPass(passes);
        tell(below != turned ? 1 : 0, sign[0]);
        state.found[y][x] = true;
        state.negative[y][x] = below;
    }

    /** All places in the order of a pass. */
    private List<int[]> places() {
        List<int[]> places = new ArrayList<>();
        for (int top = 0; top < height; top += 4) {
            for (int x = 0; x < width; x++) {
                for (int y = top; y < height && y < top + 4; y++) {
                    places.add(new int[] {x, y});
                }
            }
        }
        return places;
    }

    private void tellFinding(State state, int plane) {
        for (int[] place : places()) {
            int x = place[0];
            int y = place[1];
            if (!state.found[y][x] && state.context(x, y) != 0) {
                tellSample(state, x, y, plane);
                state.seen[y][x] = true;
            }
        }
    }

    private void tellRefining(State state, int plane) {
        for (int[] place : places()) {
            int x = place[0];
            int y = place[1];
            if (state.found[y][x] && !state.seen[y][x]) {
                tell(sizeBit(x, y, plane), state.refiningContext(x, y));
                state.refined[y][x] = true;
                state.learn(x, y, plane, sizeBit(x, y, plane));
            }
        }
    }

    private void tellCleanup(State state, int plane) {
        for (int top = 0; top < height; top += 4) {
            for (int x = 0; x < width; x++) {
                tellCleanupColumn(state, x, top, plane);
            }
        }
        if (has(16)) {
            tell(1, 18);
            tell(0, 18);
            tell(1, 18);
            tell(0, 18);
        }
    }

    private void tellCleanupColumn(State state, int x, int top, int plane) {
        int y = top;
        if (state.isRun(x, top)) {
            while (y < top + 4 && sizeBit(x, y, plane) == 0) {
                state.learn(x, y, plane, 0);
                y++;
            }
            tell(y < top + 4 ? 1 : 0, 17);
            if (y == top + 4) {
                return;
            }
            tell((y - top) / 2, 18);
            tell((y - top) % 2, 18);
            state.learn(x, y, plane, 1);
            tellSign(state, x, y);
            y++;
        }
        for (; y < Math.min(height, top + 4); y++) {
            if (!state.found[y][x] && !state.seen[y][x]) {
                tellSample(state, x, y, plane);
            }
        }
    }

    int bits() {
        return row.size();
    }

    int bit(int i, int what) {
        if (i < 0 || i >= row.size()) {
            throw new IndexOutOfBoundsException();
        }
        if (what < 0 || what > 2) {
            throw new IllegalArgumentException();
        }
        return row.get(i)[what];
    }

    int length(int pass) {
        onePass(pass);
        return lengths.get(pass);
    }

    long distortion(int pass) {
        onePass(pass);
        return distortions.get(pass);
    }

    private static int kindOf(int pass) {
        return pass % 3 == 0 ? 2 : pass % 3 - 1;
    }

    int kind(int pass) {
        onePass(pass);
        return kindOf(pass);
    }

    boolean terminated(int pass) {
        onePass(pass);
        return pass + 1 == passes || has(4) || (has(1) && pass >= 9 && kindOf(pass) != 0);
    }

    int feed(int bit) {
        if (bit != 0 && bit != 1) {
            throw new IllegalArgumentException();
        }
        if (toRead.size() >= 12000) {
            throw new UnsupportedOperationException();
        }
        toRead.add(bit);
        return toRead.size();
    }

    int pass(int n) {
        if (n < 0) {
            throw new IllegalArgumentException();
        }
        int some = n < row.size() ? n : row.size();
        if (toRead.size() + some > 12000) {
            throw new UnsupportedOperationException();
        }
        for (int[] told : row.subList(0, some)) {
            toRead.add(told[0]);
        }
        return some;
    }

    int turn(int i) {
        if (i < 0 || i >= toRead.size()) {
            throw new IndexOutOfBoundsException();
        }
        toRead.set(i, 1 - toRead.get(i));
        return toRead.get(i);
    }

    int decode(int planes, int wanted) {
        if (planes < 0 || planes > 15 || wanted < 0) {
            throw new IllegalArgumentException();
        }
        next = 0;
        int all = planes == 0 ? 0 : planes * 3 - 2;
        State state = new State(planes);
        keep(state);
        for (int p = 0; p < wanted && p < all; p++) {
            State after = new State(state);
            boolean right;
            try {
                right = readPass(after, p, planes);
            } catch (BitsLack e) {
                return p;
            }
            keep(after);
            if (!right) {
                return -1 - p;
            }
            state = after;
        }
        return Math.min(wanted, all);
    }

    private void keep(State state) {
        low = state.low;
        value = new int[height][width];
        for (int y = 0; y < height; y++) {
            for (int x = 0; x < width; x++) {
                value[y][x] = state.negative[y][x] ? -state.size[y][x] : state.size[y][x];
            }
        }
    }

    private int read() {
        if (next == toRead.size()) {
            throw new BitsLack();
        }
        return toRead.get(next++);
    }

    private boolean readPass(State state, int pass, int planes) {
        int kind = kindOf(pass);
        int plane = planes - 1;
        for (int p = 1; p <= pass; p++) {
            plane -= kindOf(p) == 0 ? 1 : 0;
        }
        if (kind == 0) {
            state.nothingSeen();
            readFinding(state, plane, rawPass(pass));
        } else if (kind == 1) {
            readRefining(state, plane);
        } else {
            return readCleanup(state, plane);
        }
        return true;
    }

    private void readFinding(State state, int plane, boolean raw) {
        for (int[] place : places()) {
            int x = place[0];
            int y = place[1];
            if (!state.found[y][x] && state.context(x, y) != 0) {
                state.seen[y][x] = true;
                readSample(state, x, y, plane, raw);
            }
        }
    }

    private void readRefining(State state, int plane) {
        for (int[] place : places()) {
            int x = place[0];
            int y = place[1];
            if (state.found[y][x] && !state.seen[y][x]) {
                state.learn(x, y, plane, read());
            }
        }
    }

    private boolean readCleanup(State state, int plane) {
        for (int top = 0; top < height; top += 4) {
            for (int x = 0; x < width; x++) {
                int y = state.isRun(x, top) ? readRun(state, x, top, plane) : top;
                for (; y < Math.min(height, top + 4); y++) {
                    if (!state.found[y][x] && !state.seen[y][x]) {
                        readSample(state, x, y, plane, false);
                    }
                }
            }
        }
        if (!has(16)) {
            return true;
        }
        int marks = 0;
        for (int i = 0; i < 4; i++) {
            marks = marks * 2 + read();
        }
        return marks == 10;
    }

    private int readRun(State state, int x, int top, int plane) {
        if (read() == 0) {
            for (int y = top; y < top + 4; y++) {
                state.learn(x, y, plane, 0);
            }
            return top + 4;
        }
        int first = top + read() * 2;
        first += read();
        for (int y = top; y < first; y++) {
            state.learn(x, y, plane, 0);
        }
        state.learn(x, first, plane, 1);
        readSign(state, x, first, false);
        return first + 1;
    }

    private void readSample(State state, int x, int y, int plane, boolean raw) {
        int bit = read();
        state.learn(x, y, plane, bit);
        if (bit == 1) {
            readSign(state, x, y, raw);
        }
    }

    private void readSign(State state, int x, int y, boolean raw) {
        boolean turned = !raw && state.signContext(x, y)[1] == 1;
        state.negative[y][x] = (read() == 1) != turned;
        state.found[y][x] = true;
    }

    int at(int x, int y) {
        sample(x, y);
        return value[y][x];
    }

    int known(int x, int y) {
        sample(x, y);
        return low[y][x];
    }

    int told(int what) {
        int[] all = {width, height, style, band, planes(), passes, toRead.size()};
        return what < 0 || what >= all.length ? -1 : all[what];
    }

    void clear() {
        samples = new int[height][width];
        row.clear();
        passes = 0;
        toRead.clear();
        value = new int[height][width];
        low = new int[height][width];
    }
}
