/**
 * A block of whole numbers told plane by plane, as T.800 has it: in three passes over stripes of
 * four rows, each bit with a context of what is known round it.
 *
 * <p>Telling and reading go the same way (see {@link Walk}) and differ only in where a bit comes
 * from (see {@link Tape}), so that both always find the same contexts.
 */
public final class BitPlanes {
    public static final int NONE = -1, RAW = 19;

    private static final int MOST_SIDE = 16;
    private static final int MOST_STYLE = 31;
    private static final int MOST_BAND = 2;
    private static final int MOST_SIZE = 32767;
    private static final int MOST_PLANES = 15;
    private static final int MOST_PASSES = 3 * MOST_PLANES - 2;
    private static final int MOST_BITS_TO_READ = 12000;

    private static final int BYPASS = 1;
    private static final int TERMINATE = 4;
    private static final int CAUSAL = 8;
    private static final int MARKS = 16;

    private static final int FINDING = 0;
    private static final int REFINING = 1;
    private static final int CLEANUP = 2;

    private static final int STRIPE = 4;
    private static final int FIRST_RAW_PASS = 10;

    private final Block block;
    private final int[] samples;

    private final Teller teller;
    private final Walk telling;
    private final int[] lengths;
    private final long[] distortions;
    private int passesTold;

    private final Listener listener;
    private final Walk reading;
    private final int[] valuesRead;
    private final int[] lowestRead;

    public BitPlanes(int width, int height, int style, int band) {
        block = new Block(
            within(width, 1, MOST_SIDE),
            within(height, 1, MOST_SIDE),
            within(style, 0, MOST_STYLE),
            within(band, 0, MOST_BAND));
        samples = new int[block.cells];
        teller = new Teller(samples, block);
        telling = new Walk(block, teller);
        lengths = new int[MOST_PASSES];
        distortions = new long[MOST_PASSES];
        listener = new Listener();
        reading = new Walk(block, listener);
        valuesRead = new int[block.cells];
        lowestRead = new int[block.cells];
    }

    public int put(int x, int y, int v) throws IndexOutOfBoundsException, IllegalArgumentException {
        mustHoldSample(x, y);
        if (v < -MOST_SIZE || v > MOST_SIZE) {
            throw new IllegalArgumentException("no value of a sample");
        }
        int cell = block.cellOf(x, y);
        int before = samples[cell];
        samples[cell] = v;
        return before;
    }

    public int paint(int v, int step) {
        int others = 0;
        int next = v;
        for (int y = 0; y < block.height; y++) {
            for (int x = 0; x < block.width; x++) {
                int cell = block.cellOf(x, y);
                int value = within(next, -MOST_SIZE, MOST_SIZE);
                if (samples[cell] != value) {
                    others++;
                }
                samples[cell] = value;
                next += step;
            }
        }
        return others;
    }

    public int encode() {
        int planes = planesOfSamples();
        passesTold = passesOf(planes);
        teller.forget();
        telling.begin(planes);
        for (int p = 0; p < passesTold; p++) {
            teller.passNow = p;
            telling.goThrough(p);
            lengths[p] = teller.count;
            distortions[p] = squaresNotTold();
        }
        return passesTold;
    }

    public int bits() {
        return teller.count;
    }

    public int bit(int i, int what) throws IndexOutOfBoundsException, IllegalArgumentException {
        if (i < 0 || i >= teller.count) {
            throw new IndexOutOfBoundsException("no such bit");
        }
        switch (what) {
            case 0:
                return teller.bitOf(i);
            case 1:
                return teller.contextOf(i);
            case 2:
                return teller.passOf(i);
            default:
                throw new IllegalArgumentException("nothing of a bit that is told");
        }
    }

    public int length(int pass) throws IndexOutOfBoundsException {
        mustBeTold(pass);
        return lengths[pass];
    }

    public long distortion(int pass) throws IndexOutOfBoundsException {
        mustBeTold(pass);
        return distortions[pass];
    }

    public int kind(int pass) throws IndexOutOfBoundsException {
        mustBeTold(pass);
        return kindOf(pass);
    }

    public boolean terminated(int pass) throws IndexOutOfBoundsException {
        mustBeTold(pass);
        if (pass == passesTold - 1 || block.hasStyle(TERMINATE)) {
            return true;
        }
        // The cleanup before the first raw pass ends as well: raw bits begin behind it.
        return block.hasStyle(BYPASS) && pass >= FIRST_RAW_PASS - 1 && kindOf(pass) != FINDING;
    }

    public int feed(int bit) throws IllegalArgumentException, UnsupportedOperationException {
        if (bit < 0 || bit > 1) {
            throw new IllegalArgumentException("neither 0 nor 1");
        }
        mustHaveRoomFor(1);
        listener.append(bit);
        return listener.count;
    }

    public int pass(int n) throws IllegalArgumentException, UnsupportedOperationException {
        if (n < 0) {
            throw new IllegalArgumentException("fewer bits than none");
        }
        int more = Math.min(n, teller.count);
        mustHaveRoomFor(more);
        for (int i = 0; i < more; i++) {
            listener.append(teller.bitOf(i));
        }
        return more;
    }

    public int turn(int i) throws IndexOutOfBoundsException {
        if (i < 0 || i >= listener.count) {
            throw new IndexOutOfBoundsException("no such bit to be read");
        }
        return listener.flip(i);
    }

    public int decode(int planes, int passes) throws IllegalArgumentException {
        if (planes < 0 || planes > MOST_PLANES || passes < 0) {
            throw new IllegalArgumentException("no such planes or passes");
        }
        int wanted = Math.min(passes, passesOf(planes));
        listener.rewind();
        reading.begin(planes);
        keepWhatIsRead();
        for (int p = 0; p < wanted; p++) {
            boolean marksAreRight = reading.goThrough(p);
            if (listener.lacking) {
                return p;
            }
            keepWhatIsRead();
            if (!marksAreRight) {
                return NONE - p;
            }
        }
        return wanted;
    }

    public int at(int x, int y) throws IndexOutOfBoundsException {
        mustHoldSample(x, y);
        return valuesRead[block.cellOf(x, y)];
    }

    public int known(int x, int y) throws IndexOutOfBoundsException {
        mustHoldSample(x, y);
        return lowestRead[block.cellOf(x, y)];
    }

    public int told(int what) {
        switch (what) {
            case 0:
                return block.width;
            case 1:
                return block.height;
            case 2:
                return block.style;
            case 3:
                return block.band;
            case 4:
                return planesOfSamples();
            case 5:
                return passesTold;
            case 6:
                return listener.count;
            default:
                return NONE;
        }
    }

    public void clear() {
        fillWith(samples, 0);
        teller.forget();
        passesTold = 0;
        listener.forget();
        fillWith(valuesRead, 0);
        fillWith(lowestRead, 0);
    }

    private void mustHoldSample(int x, int y) {
        if (!block.holds(x, y)) {
            throw new IndexOutOfBoundsException("no such sample");
        }
    }

    private void mustBeTold(int pass) {
        if (pass < 0 || pass >= passesTold) {
            throw new IndexOutOfBoundsException("no such pass");
        }
    }

    private void mustHaveRoomFor(int more) {
        if (more > MOST_BITS_TO_READ - listener.count) {
            throw new UnsupportedOperationException("too many bits to be read");
        }
    }

    private int planesOfSamples() {
        int sizesTogether = 0;
        for (int cell = 0; cell < samples.length; cell++) {
            sizesTogether |= Math.abs(samples[cell]);
        }
        int planes = 0;
        for (int plane = 0; plane < MOST_PLANES; plane++) {
            if ((sizesTogether >> plane & 1) == 1) {
                planes = plane + 1;
            }
        }
        return planes;
    }

    private long squaresNotTold() {
        long sum = 0;
        for (int cell = 0; cell < samples.length; cell++) {
            long rest = Math.abs(samples[cell]) - telling.sizes[cell];
            sum += rest * rest;
        }
        return sum;
    }

    /** Called only behind whole passes, so that a pass for which bits lack leaves no trace. */
    private void keepWhatIsRead() {
        for (int cell = 0; cell < valuesRead.length; cell++) {
            valuesRead[cell] = reading.signs[cell] * reading.sizes[cell];
            lowestRead[cell] = reading.lowest[cell];
        }
    }

    private static int passesOf(int planes) {
        return planes == 0 ? 0 : 3 * planes - 2;
    }

    private static int kindOf(int pass) {
        return (pass + 2) % 3;
    }

    private static int within(int number, int least, int most) {
        return Math.max(least, Math.min(most, number));
    }

    private static void fillWith(int[] row, int number) {
        for (int i = 0; i < row.length; i++) {
            row[i] = number;
        }
    }

    /**
     * The block's form. Rows of cells have a border of one cell all round, whose samples are never
     * found: so each sample has eight neighbours, and each neighbour's cell is inside the rows.
     */
    private static final class Block {
        final int width;
        final int height;
        final int style;
        final int band;
        final int stride;
        final int cells;

        Block(int width, int height, int style, int band) {
            this.width = width;
            this.height = height;
            this.style = style;
            this.band = band;
            stride = width + 2;
            cells = stride * (height + 2);
        }

        boolean holds(int x, int y) {
            return x >= 0 && x < width && y >= 0 && y < height;
        }

        int cellOf(int x, int y) {
            return (y + 1) * stride + x + 1;
        }

        boolean hasStyle(int part) {
            return (style & part) != 0;
        }

        /** Whether a row must not look at the one below it, as that belongs to the next stripe. */
        boolean isBlindBelow(int y) {
            return hasStyle(CAUSAL) && y % STRIPE == STRIPE - 1;
        }

        /**
         * Per sample 15 bits and a sign; a column of four that is told as one has 2 more, once, for
         * which one more per sample is plenty; and the marks of each plane.
         */
        int mostBitsTold() {
            return width * height * (MOST_PLANES + 2) + 4 * MOST_PLANES;
        }
    }

    /** What a walk exchanges bits with. */
    private abstract static class Tape {
        /** The bit of a sample's size, as far as this side knows it beforehand. */
        abstract int sizeBit(int cell, int plane);

        /** 1 for a sample below 0, as far as this side knows it beforehand. */
        abstract int signBit(int cell);

        /** The bit that holds: a teller's own one, or the next one that a listener hears. */
        abstract int exchange(int bit, int context);
    }

    /** Tells samples; the bits lie in a row, each with its context and pass in one number. */
    private static final class Teller extends Tape {
        private static final int CONTEXT_SHIFT = 1;
        private static final int CONTEXT_MASK = 31;
        private static final int PASS_SHIFT = 6;

        private final int[] samples;
        private final int[] row;
        int count;
        int passNow;

        Teller(int[] samples, Block block) {
            this.samples = samples;
            row = new int[block.mostBitsTold()];
        }

        void forget() {
            count = 0;
        }

        int sizeBit(int cell, int plane) {
            return Math.abs(samples[cell]) >> plane & 1;
        }

        int signBit(int cell) {
            return samples[cell] < 0 ? 1 : 0;
        }

        int exchange(int bit, int context) {
            if (count < row.length) {
                row[count] = bit | context << CONTEXT_SHIFT | passNow << PASS_SHIFT;
                count++;
            }
            return bit;
        }

        int bitOf(int i) {
            return row[i] & 1;
        }

        int contextOf(int i) {
            return row[i] >> CONTEXT_SHIFT & CONTEXT_MASK;
        }

        int passOf(int i) {
            return row[i] >> PASS_SHIFT;
        }
    }

    /** Reads bits; they lie 32 in a number, as one element each would fill the room. */
    private static final class Listener extends Tape {
        private static final int WORD_SHIFT = 5;
        private static final int WORD_MASK = 31;

        private final int[] words = new int[(MOST_BITS_TO_READ >> WORD_SHIFT) + 1];
        int count;
        boolean lacking;
        private int next;

        void forget() {
            count = 0;
        }

        void rewind() {
            next = 0;
            lacking = false;
        }

        void append(int bit) {
            if (count < MOST_BITS_TO_READ) {
                int word = count >> WORD_SHIFT;
                int mask = 1 << (count & WORD_MASK);
                words[word] = bit == 1 ? words[word] | mask : words[word] & ~mask;
                count++;
            }
        }

        int flip(int i) {
            words[i >> WORD_SHIFT] ^= 1 << (i & WORD_MASK);
            return bitOf(i);
        }

        private int bitOf(int i) {
            return words[i >> WORD_SHIFT] >>> (i & WORD_MASK) & 1;
        }

        int sizeBit(int cell, int plane) {
            return 0;
        }

        int signBit(int cell) {
            return 0;
        }

        /** Behind the last bit the walk goes on with zeros; what it finds is then not kept. */
        int exchange(int bit, int context) {
            if (next >= count) {
                lacking = true;
                return 0;
            }
            int heard = bitOf(next);
            next++;
            return heard;
        }
    }

    /** The contexts by what is found round a sample. */
    private static final class Contexts {
        static final int FIRST_REFINED_ALONE = 14;
        static final int FIRST_REFINED = 15;
        static final int REFINED_AGAIN = 16;
        static final int RUN = 17;
        static final int UNIFORM = 18;

        private static final int SIGN_BESIDE = 12;
        private static final int SIGN_ELSE = 9;

        static int ofSize(int band, int h, int v, int d) {
            if (band == 0) {
                return ofSides(h, v, d);
            }
            return band == 1 ? ofSides(v, h, d) : ofCorners(h + v, d);
        }

        private static int ofSides(int h, int v, int d) {
            if (h == 2) {
                return 8;
            }
            if (h == 1) {
                return v > 0 ? 7 : d > 0 ? 6 : 5;
            }
            return v > 0 ? 2 + v : d > 1 ? 2 : d;
        }

        private static int ofCorners(int s, int d) {
            if (d > 2) {
                return 8;
            }
            if (d == 2) {
                return s > 0 ? 7 : 6;
            }
            int few = s > 1 ? 2 : s;
            return d == 1 ? 3 + few : few;
        }

        static boolean turnsSign(int a, int b) {
            return a < 0 || a == 0 && b < 0;
        }

        static int ofSign(int a, int b) {
            int upright = turnsSign(a, b) ? -b : b;
            return (a == 0 ? SIGN_ELSE : SIGN_BESIDE) + upright;
        }
    }

    /**
     * The passes over the block, with what they have made known of it. That a sample is found is
     * in its sign, which is 0 before; that it was told in the plane at hand (seen, found or
     * refined there) is in its lowest plane.
     */
    private static final class Walk {
        private final Block block;
        private final Tape tape;
        final int[] signs;
        final int[] sizes;
        final int[] lowest;
        private int planes;
        private int plane;
        private boolean raw;

        Walk(Block block, Tape tape) {
            this.block = block;
            this.tape = tape;
            signs = new int[block.cells];
            sizes = new int[block.cells];
            lowest = new int[block.cells];
        }

        void begin(int planes) {
            this.planes = planes;
            fillWith(signs, 0);
            fillWith(sizes, 0);
            fillWith(lowest, planes);
        }

        /** Whether the pass's marks are right, which they are too where it has none. */
        boolean goThrough(int pass) {
            int kind = kindOf(pass);
            plane = planes - 1 - (pass + 2) / 3;
            raw = block.hasStyle(BYPASS) && pass >= FIRST_RAW_PASS && kind != CLEANUP;
            for (int top = 0; top < block.height; top += STRIPE) {
                int bottom = Math.min(top + STRIPE, block.height);
                for (int x = 0; x < block.width; x++) {
                    if (kind == FINDING) {
                        findColumn(x, top, bottom);
                    } else if (kind == REFINING) {
                        refineColumn(x, top, bottom);
                    } else {
                        cleanColumn(x, top, bottom);
                    }
                }
            }
            return kind != CLEANUP || !block.hasStyle(MARKS) || exchangeMarks();
        }

        private void findColumn(int x, int top, int bottom) {
            for (int y = top; y < bottom; y++) {
                int cell = block.cellOf(x, y);
                boolean blind = block.isBlindBelow(y);
                if (signs[cell] == 0) {
                    int context = contextOf(cell, blind);
                    if (context != 0) {
                        exchangeSize(cell, blind, context);
                    }
                }
            }
        }

        private void refineColumn(int x, int top, int bottom) {
            for (int y = top; y < bottom; y++) {
                int cell = block.cellOf(x, y);
                if (signs[cell] != 0 && lowest[cell] > plane) {
                    int context = raw ? RAW : refiningContextOf(cell, block.isBlindBelow(y));
                    int bit = tape.exchange(tape.sizeBit(cell, plane), context);
                    sizes[cell] |= bit << plane;
                    lowest[cell] = plane;
                }
            }
        }

        private void cleanColumn(int x, int top, int bottom) {
            int from = isUntouched(x, top, bottom) ? top + exchangeRun(x, top) : top;
            for (int y = from; y < bottom; y++) {
                int cell = block.cellOf(x, y);
                if (isOpen(cell)) {
                    boolean blind = block.isBlindBelow(y);
                    exchangeSize(cell, blind, contextOf(cell, blind));
                }
            }
        }

        private boolean isOpen(int cell) {
            return signs[cell] == 0 && lowest[cell] > plane;
        }

        private boolean isUntouched(int x, int top, int bottom) {
            if (bottom - top < STRIPE) {
                return false;
            }
            for (int y = top; y < bottom; y++) {
                int cell = block.cellOf(x, y);
                if (!isOpen(cell) || contextOf(cell, block.isBlindBelow(y)) != 0) {
                    return false;
                }
            }
            return true;
        }

        /** A column of four, as one: how many of its rows are told by this. */
        private int exchangeRun(int x, int top) {
            int first = firstOne(x, top);
            if (tape.exchange(first < STRIPE ? 1 : 0, Contexts.RUN) == 0) {
                markTold(x, top, STRIPE);
                return STRIPE;
            }
            int high = tape.exchange(first >> 1 & 1, Contexts.UNIFORM);
            int low = tape.exchange(first & 1, Contexts.UNIFORM);
            int place = 2 * high + low;
            markTold(x, top, place + 1);
            exchangeSign(block.cellOf(x, top + place), block.isBlindBelow(top + place));
            return place + 1;
        }

        private int firstOne(int x, int top) {
            for (int row = 0; row < STRIPE; row++) {
                if (tape.sizeBit(block.cellOf(x, top + row), plane) == 1) {
                    return row;
                }
            }
            return STRIPE;
        }

        private void markTold(int x, int top, int rows) {
            for (int row = 0; row < rows; row++) {
                lowest[block.cellOf(x, top + row)] = plane;
            }
        }

        private void exchangeSize(int cell, boolean blind, int context) {
            lowest[cell] = plane;
            if (tape.exchange(tape.sizeBit(cell, plane), raw ? RAW : context) == 1) {
                exchangeSign(cell, blind);
            }
        }

        /** The sample is found with this. */
        private void exchangeSign(int cell, boolean blind) {
            int below = blind ? 0 : signs[cell + block.stride];
            int a = within(signs[cell - 1] + signs[cell + 1], -1, 1);
            int b = within(signs[cell - block.stride] + below, -1, 1);
            int turned = !raw && Contexts.turnsSign(a, b) ? 1 : 0;
            int context = raw ? RAW : Contexts.ofSign(a, b);
            int bit = tape.exchange(tape.signBit(cell) ^ turned, context) ^ turned;
            signs[cell] = bit == 1 ? -1 : 1;
            sizes[cell] = 1 << plane;
        }

        /** All four are exchanged, even behind a wrong one: a pass ends where its bits end. */
        private boolean exchangeMarks() {
            boolean right = true;
            for (int i = 0; i < 4; i++) {
                int due = 1 - i % 2;
                if (tape.exchange(due, Contexts.UNIFORM) != due) {
                    right = false;
                }
            }
            return right;
        }

        private int refiningContextOf(int cell, boolean blind) {
            // Each plane refines all that was found above it: only what was found in the plane
            // just above has a single bit yet, and has not been refined.
            if (sizes[cell] != 2 << plane) {
                return Contexts.REFINED_AGAIN;
            }
            boolean alone = contextOf(cell, blind) == 0;
            return alone ? Contexts.FIRST_REFINED_ALONE : Contexts.FIRST_REFINED;
        }

        private int contextOf(int cell, boolean blind) {
            int above = cell - block.stride;
            int below = cell + block.stride;
            int h = found(cell - 1) + found(cell + 1);
            int v = found(above);
            int d = found(above - 1) + found(above + 1);
            if (!blind) {
                v += found(below);
                d += found(below - 1) + found(below + 1);
            }
            return Contexts.ofSize(block.band, h, v, d);
        }

        private int found(int cell) {
            return signs[cell] == 0 ? 0 : 1;
        }
    }
}
