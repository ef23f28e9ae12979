/** Promises 4 to 6: encode, bits and bit, on blocks small enough to be told by hand. */
public final class TellingTest {
    private static final int BYPASS = 1;
    private static final int CAUSAL = 8;
    private static final int MARKS = 16;

    /** By h, v (rows) and d (places in a row), as the document has it for band 0. */
    private static final String[][] SIDES = {
        {"01222", "33333", "44444"},
        {"56666", "77777", "77777"},
        {"88888", "88888", "88888"}};

    /** By s = h + v (rows) and d (places in a row), as the document has it for band 2. */
    private static final String[] CORNERS = {"03688", "14788", "25788", "25788", "25788"};

    /** By a and b, each -1 .. 1: the context, below 0 where the bit is turned. */
    private static final int[][] SIGNS = {{-13, -12, -11}, {-10, 9, 10}, {11, 12, 13}};

    public static void main(String[] args) {
        nothingToTell();
        oneSample();
        columnToldAsOne();
        columnsOfFewerRows();
        placesInAColumn();
        stripesColumnsRows();
        marks();
        causal();
        refining();
        bypass();
        styleThatChangesNothing();
        allContextsOfSizes();
        allContextsOfSigns();
        toldAnew();
        bitsThatAreNotThere();
        mostBits();
        Due.end();
    }

    /** Each bit of the block, as {bit, context, pass}. */
    private static void due(String name, BitPlanes x, int passes, int[][] bits) {
        Due.answer(name + ": encode()", x.encode(), passes);
        Due.answer(name + ": bits()", x.bits(), bits.length);
        for (int i = 0; i < Math.min(bits.length, x.bits()); i++) {
            for (int what = 0; what < 3; what++) {
                Due.answer(name + ": bit(" + i + ", " + what + ")", x.bit(i, what), bits[i][what]);
            }
        }
    }

    private static void nothingToTell() {
        due("zeros", new BitPlanes(5, 5, 31, 2), 0, new int[][] {});
        Due.answer("bits() before encode()", Blocks.of(1, 0, 0, 4).bits(), 0);
    }

    private static void oneSample() {
        due("one sample", Blocks.of(1, 0, 0, -5), 7,
            new int[][] {{1, 0, 0}, {1, 9, 0}, {0, 14, 2}, {1, 16, 5}});
        due("a one", Blocks.of(1, 0, 2, 1), 1, new int[][] {{1, 0, 0}, {0, 9, 0}});
    }

    private static void columnToldAsOne() {
        due("a column", Blocks.of(1, 0, 0, 0, 0, 3, 0), 4, new int[][] {
            {1, 17, 0}, {1, 18, 0}, {0, 18, 0}, {0, 9, 0}, {0, 3, 0},
            {0, 3, 1}, {0, 3, 1},
            {1, 14, 2},
            {0, 0, 3}});
    }

    private static void columnsOfFewerRows() {
        due("three rows", Blocks.of(1, 0, 0, 0, 0, 1), 1,
            new int[][] {{0, 0, 0}, {0, 0, 0}, {1, 0, 0}, {0, 9, 0}});
        due("five rows", Blocks.of(1, 0, 0, 0, 0, 0, 0, -1), 1,
            new int[][] {{0, 17, 0}, {1, 0, 0}, {1, 9, 0}});
    }

    private static void placesInAColumn() {
        for (int place = 0; place < 4; place++) {
            BitPlanes x = new BitPlanes(1, 4, 0, 0);
            x.put(0, place, 1);
            x.encode();
            Due.answer("bits with the first at " + place, x.bits(), 7 - place);
            Due.answer("its higher bit", x.bit(1, 0), place / 2);
            Due.answer("its lower bit", x.bit(2, 0), place % 2);
        }
    }

    private static void stripesColumnsRows() {
        // The one above right comes behind the whole column at its left, but before the stripe below.
        due("two columns", Blocks.of(2, 0, 0, 0, 0, 0, 0, 0, 0, -1, 0, 0, 1), 1, new int[][] {
            {1, 17, 0}, {1, 18, 0}, {1, 18, 0}, {1, 9, 0},
            {0, 0, 0}, {0, 0, 0}, {0, 1, 0}, {0, 5, 0},
            {0, 3, 0}, {1, 1, 0}, {0, 9, 0}});
    }

    private static void marks() {
        due("marks", Blocks.of(1, MARKS, 0, 2), 4, new int[][] {
            {1, 0, 0}, {0, 9, 0}, {1, 18, 0}, {0, 18, 0}, {1, 18, 0}, {0, 18, 0},
            {0, 14, 2},
            {1, 18, 3}, {0, 18, 3}, {1, 18, 3}, {0, 18, 3}});
    }

    private static void causal() {
        due("not causal", Blocks.of(1, 0, 0, 0, 0, 0, 1, -2), 4, new int[][] {
            {0, 17, 0}, {1, 0, 0}, {1, 9, 0},
            {1, 3, 1}, {1, 10, 1},
            {0, 15, 2},
            {0, 0, 3}, {0, 0, 3}, {0, 3, 3}});
        due("causal", Blocks.of(1, CAUSAL, 0, 0, 0, 0, 1, -2), 4, new int[][] {
            {0, 17, 0}, {1, 0, 0}, {1, 9, 0},
            {0, 14, 2},
            {1, 17, 3}, {1, 18, 3}, {1, 18, 3}, {0, 9, 3}});
        // A stripe sees the one above it, and one sees the row below it in its own stripe.
        due("causal, looking up", Blocks.of(1, CAUSAL, 0, 0, 0, 1, 2, 1), 4, new int[][] {
            {1, 17, 0}, {1, 18, 0}, {1, 18, 0}, {0, 9, 0}, {0, 3, 0},
            {1, 3, 1}, {0, 10, 1}, {1, 3, 1}, {0, 10, 1},
            {0, 15, 2},
            {0, 0, 3}, {0, 3, 3}});
    }

    private static void refining() {
        due("refined with a neighbour", Blocks.of(2, 0, 0, 7, 4), 7, new int[][] {
            {1, 0, 0}, {0, 9, 0}, {1, 5, 0}, {0, 12, 0},
            {1, 15, 2}, {0, 15, 2},
            {1, 16, 5}, {0, 16, 5}});
        // A neighbour at a corner counts as well, and so does one found in this very plane.
        due("refined with a corner", Blocks.of(2, 0, 0, 2, 0, 0, 1), 4, new int[][] {
            {1, 0, 0}, {0, 9, 0}, {0, 3, 0}, {0, 5, 0}, {0, 1, 0},
            {0, 3, 1}, {0, 5, 1}, {1, 1, 1}, {0, 9, 1},
            {0, 15, 2}});
    }

    private static void bypass() {
        int[][] before = {
            {1, 0, 0}, {1, 9, 0}, {0, 5, 0}, {0, 0, 0}, {0, 0, 0},
            {0, 5, 1}, {0, 14, 2}, {0, 0, 3}, {0, 0, 3},
            {0, 5, 4}, {0, 16, 5}, {0, 0, 6}, {0, 0, 6},
            {0, 5, 7}, {0, 16, 8}, {0, 0, 9}, {0, 0, 9}};
        due("bypass", Blocks.of(4, BYPASS, 0, -17, 1, 0, 1), 13, with(before, new int[][] {
            {1, 19, 10}, {0, 19, 10}, {0, 19, 10}, {1, 19, 11}, {1, 0, 12}, {0, 9, 12}}));
        due("bypass, below 0", Blocks.of(4, BYPASS, 0, -17, -1, 0, -1), 13, with(before, new int[][] {
            {1, 19, 10}, {1, 19, 10}, {0, 19, 10}, {1, 19, 11}, {1, 0, 12}, {1, 9, 12}}));
        due("no bypass", Blocks.of(4, 0, 0, -17, 1, 0, 1), 13, with(before, new int[][] {
            {1, 5, 10}, {1, 12, 10}, {0, 5, 10}, {1, 16, 11}, {1, 0, 12}, {0, 9, 12}}));
    }

    private static int[][] with(int[][] first, int[][] then) {
        int[][] all = new int[first.length + then.length][];
        System.arraycopy(first, 0, all, 0, first.length);
        System.arraycopy(then, 0, all, first.length, then.length);
        return all;
    }

    private static void styleThatChangesNothing() {
        for (int style = 0; style < 32; style++) {
            BitPlanes one = new BitPlanes(3, 5, style & ~6, 1);
            BitPlanes two = new BitPlanes(3, 5, style, 1);
            one.paint(-100, 13);
            two.paint(-100, 13);
            Due.answer("encode() of style " + style, two.encode(), one.encode());
            Due.answer("bits() of style " + style, two.bits(), one.bits());
            for (int i = 0; i < one.bits(); i++) {
                Due.answer("bit of style " + style, two.bit(i, 0), one.bit(i, 0));
                Due.answer("context of style " + style, two.bit(i, 1), one.bit(i, 1));
            }
        }
    }

    /** All ways in which neighbours are found in the plane above, with a one in their middle. */
    private static void allContextsOfSizes() {
        for (int band = 0; band < 3; band++) {
            for (int which = 1; which < 256; which++) {
                int[] n = new int[8];
                for (int i = 0; i < 8; i++) {
                    n[i] = which >> i & 1;
                }
                BitPlanes x = Blocks.of(3, 0, band, 2 * n[0], 2 * n[1], 2 * n[2],
                    2 * n[3], 1, 2 * n[4], 2 * n[5], 2 * n[6], 2 * n[7]);
                x.encode();
                Due.answer("context in band " + band + " of neighbours " + which,
                    x.bit(firstOneOfPass1(x), 1),
                    sizeContext(band, n[3] + n[4], n[1] + n[6], n[0] + n[2] + n[5] + n[7]));
            }
        }
    }

    private static int sizeContext(int band, int h, int v, int d) {
        String row = band == 0 ? SIDES[h][v] : band == 1 ? SIDES[v][h] : CORNERS[h + v];
        return row.charAt(d) - '0';
    }

    private static int firstOneOfPass1(BitPlanes x) {
        int i = 0;
        while (x.bit(i, 2) < 1 || x.bit(i, 0) == 0) {
            i++;
        }
        return i;
    }

    private static void allContextsOfSigns() {
        for (int which = 0; which < 81; which++) {
            int left = which % 3 - 1;
            int right = which / 3 % 3 - 1;
            int above = which / 9 % 3 - 1;
            int below = which / 27 - 1;
            if (left == 0 && right == 0 && above == 0 && below == 0) {
                continue;
            }
            int a = Integer.signum(left + right);
            int b = Integer.signum(above + below);
            int due = SIGNS[a + 1][b + 1];
            for (int middle = -1; middle <= 1; middle += 2) {
                BitPlanes x = Blocks.of(3, 0, 0, 0, 2 * above, 0, 2 * left, middle, 2 * right,
                    0, 2 * below, 0);
                x.encode();
                int i = firstOneOfPass1(x) + 1;
                Due.answer("context of a sign by " + a + ", " + b, x.bit(i, 1), Math.abs(due));
                Due.answer("sign " + middle + " by " + a + ", " + b, x.bit(i, 0),
                    (middle < 0) != (due < 0) ? 1 : 0);
            }
        }
    }

    private static void toldAnew() {
        BitPlanes x = Blocks.of(1, 0, 0, -5);
        x.encode();
        x.put(0, 0, 1);
        Due.answer("bits() behind a put", x.bits(), 4);
        Due.answer("bit(1, 0) behind a put", x.bit(1, 0), 1);
        due("told anew", x, 1, new int[][] {{1, 0, 0}, {0, 9, 0}});
        x.put(0, 0, 0);
        due("zeros told anew", x, 0, new int[][] {});
    }

    private static void bitsThatAreNotThere() {
        BitPlanes x = Blocks.of(1, 0, 0, -5);
        Due.exception("bit(0, 0) before encode()", IndexOutOfBoundsException.class, () -> x.bit(0, 0));
        x.encode();
        int[] others = {-1, 4, 5, Integer.MIN_VALUE, Integer.MAX_VALUE};
        for (int i : others) {
            Due.exception("bit(" + i + ", 0)", IndexOutOfBoundsException.class, () -> x.bit(i, 0));
            Due.exception("bit(" + i + ", 3)", IndexOutOfBoundsException.class, () -> x.bit(i, 3));
        }
        int[] whats = {-1, 3, Integer.MIN_VALUE, Integer.MAX_VALUE};
        for (int what : whats) {
            Due.exception("bit(3, " + what + ")", IllegalArgumentException.class, () -> x.bit(3, what));
        }
        Due.answer("bit(3, 0)", x.bit(3, 0), 1);
    }

    /** Nothing can have more bits than this: as many columns as can be are told as one, with a 1. */
    private static void mostBits() {
        BitPlanes x = new BitPlanes(16, 16, 31, 0);
        x.paint(16383, 0);
        for (int y = 0; y < 16; y += 4) {
            for (int column = 0; column < 16; column += 2) {
                x.put(column, y, -32767);
            }
        }
        Due.answer("encode() of the most", x.encode(), 43);
        Due.answer("bits() of the most", x.bits(), 256 * 16 + 32 * 2 + 15 * 4);
        Due.answer("the last bit's pass", x.bit(x.bits() - 1, 2), 42);
        Due.answer("the last bit's context", x.bit(x.bits() - 1, 1), 18);
    }
}
