/** Promises 11 to 16: feed, pass, turn, decode, at and known. */
public final class ReadingTest {
    private static final int BYPASS = 1;
    private static final int CAUSAL = 8;
    private static final int MARKS = 16;

    public static void main(String[] args) {
        feeds();
        passes();
        mostBitsToRead();
        turns();
        beforeReading();
        readByHand();
        readInPart();
        bitsThatLack();
        passesThatNeedNoBits();
        marksThatAreOther();
        signsTurnedAndRaw();
        columnsToldAsOne();
        whatIsReadStays();
        beginsAnew();
        refusedReading();
        samplesThatAreNotThere();
        thereAndBack();
        Due.end();
    }

    private static void sample(BitPlanes x, int column, int row, int value, int plane) {
        Due.answer("at(" + column + ", " + row + ")", x.at(column, row), value);
        Due.answer("known(" + column + ", " + row + ")", x.known(column, row), plane);
    }

    private static void feeds() {
        BitPlanes x = new BitPlanes(1, 1, 0, 0);
        for (int i = 1; i <= 70; i++) {
            Due.answer("feed", x.feed(i % 2), i);
        }
        int[] others = {-1, 2, Integer.MIN_VALUE, Integer.MAX_VALUE};
        for (int bit : others) {
            Due.exception("feed(" + bit + ")", IllegalArgumentException.class, () -> x.feed(bit));
        }
        Due.answer("told(6)", x.told(6), 70);
    }

    private static void passes() {
        BitPlanes x = new BitPlanes(1, 1, 0, 0);
        x.put(0, 0, -5);
        Due.answer("pass(9) before encode()", x.pass(9), 0);
        x.encode();
        Due.answer("pass(0)", x.pass(0), 0);
        Due.answer("pass(3)", x.pass(3), 3);
        Due.answer("pass(4)", x.pass(4), 4);
        Due.answer("pass(5)", x.pass(5), 4);
        Due.answer("pass(most)", x.pass(Integer.MAX_VALUE), 4);
        Due.answer("feed behind passes", x.feed(1), 16);
        Due.exception("pass(-1)", IllegalArgumentException.class, () -> x.pass(-1));
        Due.exception("pass(least)", IllegalArgumentException.class, () -> x.pass(Integer.MIN_VALUE));
        Due.answer("told(6)", x.told(6), 16);
        String due = "110" + "1101" + "1101" + "1101" + "1";
        for (int i = 0; i < 16; i++) {
            Due.answer("bit " + i + " turned", x.turn(i), '1' - due.charAt(i));
        }
    }

    private static void mostBitsToRead() {
        BitPlanes x = new BitPlanes(16, 16, 0, 0);
        x.paint(32767, 0);
        x.encode();
        int bits = x.bits();
        Due.answer("pass(all)", x.pass(bits), bits);
        Due.answer("pass(all)", x.pass(bits), bits);
        int rest = 12000 - 2 * bits;
        Due.exception("pass(one more)", UnsupportedOperationException.class, () -> x.pass(rest + 1));
        Due.exception("pass(most)", UnsupportedOperationException.class,
            () -> x.pass(Integer.MAX_VALUE));
        Due.answer("told(6)", x.told(6), 2 * bits);
        Due.answer("pass(rest - 1)", x.pass(rest - 1), rest - 1);
        Due.answer("feed(1)", x.feed(1), 12000);
        Due.exception("feed(0)", UnsupportedOperationException.class, () -> x.feed(0));
        Due.exception("feed(2)", IllegalArgumentException.class, () -> x.feed(2));
        Due.exception("pass(1)", UnsupportedOperationException.class, () -> x.pass(1));
        Due.exception("pass(-1)", IllegalArgumentException.class, () -> x.pass(-1));
        Due.answer("pass(0)", x.pass(0), 0);
        Due.answer("told(6)", x.told(6), 12000);
        Due.answer("turn(11999)", x.turn(11999), 0);
        Due.exception("turn(12000)", IndexOutOfBoundsException.class, () -> x.turn(12000));
        Due.answer("decode(15, 43)", x.decode(15, 43), 43);
        sample(x, 15, 15, 32767, 0);
    }

    private static void turns() {
        BitPlanes x = Blocks.fed(1, 1, 0, "110");
        Due.answer("turn(2)", x.turn(2), 1);
        Due.answer("turn(2)", x.turn(2), 0);
        Due.answer("turn(1)", x.turn(1), 0);
        int[] others = {-1, 3, 4, 12000, Integer.MIN_VALUE, Integer.MAX_VALUE};
        for (int i : others) {
            Due.exception("turn(" + i + ")", IndexOutOfBoundsException.class, () -> x.turn(i));
        }
        Due.answer("decode(2, 3)", x.decode(2, 3), 3);
        sample(x, 0, 0, 2, 0);
        BitPlanes empty = new BitPlanes(1, 1, 0, 0);
        Due.exception("turn(0) of none", IndexOutOfBoundsException.class, () -> empty.turn(0));
        BitPlanes told = new BitPlanes(1, 1, 0, 0);
        told.put(0, 0, 1);
        told.encode();
        Due.exception("turn(0) of a told bit", IndexOutOfBoundsException.class, () -> told.turn(0));
        told.pass(2);
        told.turn(0);
        Due.answer("bit(0, 0) behind turn(0)", told.bit(0, 0), 1);
    }

    private static void beforeReading() {
        BitPlanes x = new BitPlanes(2, 2, 0, 0);
        x.paint(7, 1);
        x.encode();
        x.pass(99);
        sample(x, 1, 1, 0, 0);
    }

    private static void readByHand() {
        BitPlanes x = Blocks.fed(1, 1, 0, "1101");
        Due.answer("decode(3, 7)", x.decode(3, 7), 7);
        sample(x, 0, 0, -5, 0);
        // Of a column of four: none in plane 1; then the third one, -1.
        BitPlanes column = Blocks.fed(1, 4, 0, "0" + "11010");
        Due.answer("decode(2, 4)", column.decode(2, 4), 4);
        sample(column, 0, 0, 0, 0);
        sample(column, 0, 1, 0, 0);
        sample(column, 0, 2, -1, 0);
        sample(column, 0, 3, 0, 0);
    }

    private static void readInPart() {
        // -4 in pass 0; at its right 1, found in pass 4, its sign turned as -4 is beside it.
        BitPlanes x = Blocks.fed(2, 1, 0, "110" + "0" + "0" + "11" + "0");
        Due.answer("decode(3, 0)", x.decode(3, 0), 0);
        sample(x, 0, 0, 0, 3);
        sample(x, 1, 0, 0, 3);
        Due.answer("decode(3, 1)", x.decode(3, 1), 1);
        sample(x, 0, 0, -4, 2);
        sample(x, 1, 0, 0, 2);
        Due.answer("decode(3, 2)", x.decode(3, 2), 2);
        sample(x, 0, 0, -4, 2);
        sample(x, 1, 0, 0, 1);
        Due.answer("decode(3, 3)", x.decode(3, 3), 3);
        sample(x, 0, 0, -4, 1);
        Due.answer("decode(3, 5)", x.decode(3, 5), 5);
        sample(x, 0, 0, -4, 1);
        sample(x, 1, 0, 1, 0);
        Due.answer("decode(3, most)", x.decode(3, Integer.MAX_VALUE), 7);
        sample(x, 0, 0, -4, 0);
        sample(x, 1, 0, 1, 0);
        Due.answer("decode(0, 9)", x.decode(0, 9), 0);
        sample(x, 0, 0, 0, 0);
    }

    private static void bitsThatLack() {
        BitPlanes x = Blocks.fed(1, 1, 0, "");
        Due.answer("decode(15, 43) of none", x.decode(15, 43), 0);
        sample(x, 0, 0, 0, 15);
        x.feed(1);
        Due.answer("decode(15, 43) without the sign", x.decode(15, 43), 0);
        sample(x, 0, 0, 0, 15);
        x.feed(1);
        Due.answer("decode(15, 43) of the first pass", x.decode(15, 43), 2);
        sample(x, 0, 0, -16384, 14);
        // The first sample of a pass is read, but not the second one: nothing of that pass stays.
        BitPlanes two = Blocks.fed(2, 1, 0, "1010" + "1");
        Due.answer("decode(2, 4)", two.decode(2, 4), 2);
        sample(two, 0, 0, 2, 1);
        sample(two, 1, 0, 2, 1);
        two.feed(1);
        Due.answer("decode(2, 4)", two.decode(2, 4), 4);
        sample(two, 0, 0, 3, 0);
        sample(two, 1, 0, 3, 0);
    }

    private static void passesThatNeedNoBits() {
        BitPlanes x = Blocks.fed(1, 1, 0, "100");
        Due.answer("decode(2, 4)", x.decode(2, 4), 4);
        Due.answer("decode(3, 7)", x.decode(3, 7), 5);
        sample(x, 0, 0, 4, 1);
    }

    private static void marksThatAreOther() {
        String[] others = {"0010", "1110", "1000", "1011", "0000", "1111", "0101"};
        for (String marks : others) {
            BitPlanes x = Blocks.fed(1, 1, MARKS, "10" + marks + "1" + "1010");
            Due.answer("decode(2, 4) with " + marks, x.decode(2, 4), -1);
            sample(x, 0, 0, 2, 1);
            BitPlanes later = Blocks.fed(1, 1, MARKS, "10" + "1010" + "1" + marks + "11111");
            Due.answer("decode(3, 9) with " + marks + " later", later.decode(3, 9), -4);
            sample(later, 0, 0, 6, 1);
            Due.answer("decode(3, 3) with " + marks + " later", later.decode(3, 3), 3);
            Due.answer("decode(2, 4) with " + marks + " at last", later.decode(2, 4), -4);
        }
        BitPlanes right = Blocks.fed(1, 1, MARKS, "10" + "1010" + "1" + "1010");
        Due.answer("decode(2, 4) with right marks", right.decode(2, 4), 4);
        BitPlanes lacking = Blocks.fed(1, 1, MARKS, "10" + "1010" + "1" + "101");
        Due.answer("decode(2, 4) with marks that lack", lacking.decode(2, 4), 3);
        sample(lacking, 0, 0, 3, 0);
        BitPlanes wrongAndLacking = Blocks.fed(1, 1, MARKS, "10" + "01");
        Due.answer("decode(2, 4) with wrong marks that lack", wrongAndLacking.decode(2, 4), 0);
        sample(wrongAndLacking, 0, 0, 0, 2);
    }

    private static void signsTurnedAndRaw() {
        // -16, and at its right a one in the last plane: raw its sign is as it is.
        String before = "110" + "00" + "00" + "00";
        BitPlanes turned = Blocks.fed(2, 1, 0, before + "11" + "0");
        Due.answer("decode(5, 13)", turned.decode(5, 13), 13);
        sample(turned, 0, 0, -16, 0);
        sample(turned, 1, 0, 1, 0);
        BitPlanes raw = Blocks.fed(2, 1, BYPASS, before + "11" + "0");
        Due.answer("decode(5, 13) raw", raw.decode(5, 13), 13);
        sample(raw, 0, 0, -16, 0);
        sample(raw, 1, 0, -1, 0);
    }

    private static void columnsToldAsOne() {
        BitPlanes x = Blocks.fed(1, 5, CAUSAL, "0" + "11" + "0" + "1" + "0" + "0");
        Due.answer("decode(2, 1)", x.decode(2, 1), 1);
        for (int y = 0; y < 4; y++) {
            sample(x, 0, y, 0, 1);
        }
        sample(x, 0, 4, -2, 1);
        // Causal: the four above do not see it, and are told as one again (the bits lack for that).
        Due.answer("decode(2, 4)", x.decode(2, 4), 3);
        sample(x, 0, 3, 0, 1);
        sample(x, 0, 4, -2, 0);
        x.feed(1);
        x.feed(0);
        x.feed(0);
        Due.answer("decode(2, 4)", x.decode(2, 4), 3);
        sample(x, 0, 0, 0, 1);
        x.feed(0);
        Due.answer("decode(2, 4)", x.decode(2, 4), 4);
        sample(x, 0, 0, -1, 0);
        sample(x, 0, 1, 0, 0);
    }

    private static void whatIsReadStays() {
        BitPlanes x = Blocks.fed(1, 1, 0, "1101");
        x.decode(3, 7);
        Due.answer("told(6) behind decode", x.told(6), 4);
        Due.answer("decode again", x.decode(3, 7), 7);
        sample(x, 0, 0, -5, 0);
        x.put(0, 0, 9);
        x.encode();
        sample(x, 0, 0, -5, 0);
        Due.answer("bits() behind decode", x.bits(), 5);
        x.decode(3, 1);
        Due.answer("told(5) behind decode", x.told(5), 10);
        Due.answer("put behind decode", x.put(0, 0, 0), 9);
    }

    private static void beginsAnew() {
        BitPlanes x = Blocks.fed(1, 1, 0, "1111");
        Due.answer("decode(3, 7)", x.decode(3, 7), 7);
        sample(x, 0, 0, -7, 0);
        Due.answer("decode(4, 1)", x.decode(4, 1), 1);
        sample(x, 0, 0, -8, 3);
        x.turn(0);
        Due.answer("decode(1, 1)", x.decode(1, 1), 1);
        sample(x, 0, 0, 0, 0);
    }

    private static void refusedReading() {
        BitPlanes x = Blocks.fed(1, 1, 0, "1101");
        x.decode(3, 7);
        int[][] others = {{-1, 0}, {16, 0}, {0, -1}, {3, -1}, {15, Integer.MIN_VALUE},
            {Integer.MAX_VALUE, 1}, {Integer.MIN_VALUE, 1}};
        for (int[] other : others) {
            Due.exception("decode(" + other[0] + ", " + other[1] + ")",
                IllegalArgumentException.class, () -> x.decode(other[0], other[1]));
        }
        sample(x, 0, 0, -5, 0);
    }

    private static void samplesThatAreNotThere() {
        BitPlanes x = Blocks.fed(3, 5, 0, "1101");
        int[][] others = {{-1, 0}, {3, 0}, {0, -1}, {0, 5}, {4, 3}, {Integer.MAX_VALUE, 0},
            {0, Integer.MAX_VALUE}, {Integer.MIN_VALUE, 0}, {0, Integer.MIN_VALUE}};
        for (int[] o : others) {
            Due.exception("at outside", IndexOutOfBoundsException.class, () -> x.at(o[0], o[1]));
            Due.exception("known outside", IndexOutOfBoundsException.class, () -> x.known(o[0], o[1]));
        }
    }

    private static void thereAndBack() {
        for (int style = 0; style < 32; style++) {
            for (int band = 0; band < 3; band++) {
                BitPlanes x = new BitPlanes(11, 14, style, band);
                x.paint(-32767, 431);
                int passes = x.encode();
                x.pass(x.bits());
                Due.answer("decode of all", x.decode(15, 99), passes);
                for (int i = 0; i < 154; i++) {
                    sample(x, i % 11, i / 11, -32767 + 431 * i < 32767 ? -32767 + 431 * i : 32767, 0);
                }
            }
        }
    }
}
