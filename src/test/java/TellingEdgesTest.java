/**
 * The edges that promises 1 to 10 name (a new object, put, paint, encode, bits, bit, length,
 * distortion, kind, terminated): one test for each sentence, with its words. Each object has 512
 * calls at most. What a refused call leaves is in RefusedCallsTest.
 */
public final class TellingEdgesTest {
    private static final int LEAST = Integer.MIN_VALUE;
    private static final int MOST = Integer.MAX_VALUE;
    private static final Class<IndexOutOfBoundsException> INDEX = IndexOutOfBoundsException.class;
    private static final Class<IllegalArgumentException> ARGUMENT = IllegalArgumentException.class;

    public static void main(String[] args) {
        newSmallestAndLargest();
        newSamples();
        newWithoutPassesAndBits();
        putAtTheCorners();
        putOutside();
        putTheOneBefore();
        paintRowByRow();
        paintBroughtToTheEdges();
        paintRunningOver();
        paintHowManyAreOther();
        encodeHowManyPasses();
        encodeAnew();
        bitsBeforeAnyEncode();
        bitsOfTheLatestEncode();
        bitsAtMost();
        bitFirstAndLast();
        bitOutside();
        bitOfAnotherWhat();
        lengthOfEmptyPasses();
        lengthUpToTheLast();
        lengthAtTheLatestEncode();
        distortionBehindTheLast();
        distortionOfWhatIsFound();
        distortionBeyondAnInt();
        distortionAtTheLatestEncode();
        kindOfFirstAndLast();
        terminatedAnew();
        passesOutside();
        Due.end();
    }

    private static void newSmallestAndLargest() {
        Due.by("Promise 1: A block of this width and height, 1 .. 16, with this style, 0 .. 31, and band, "
            + "0 .. 2 (other numbers count as the nearest of these)");
        told(new BitPlanes(1, 1, 0, 0), 1, 1, 0, 0);
        told(new BitPlanes(16, 16, 31, 2), 16, 16, 31, 2);
        told(new BitPlanes(0, 0, -1, -1), 1, 1, 0, 0);
        told(new BitPlanes(17, 17, 32, 3), 16, 16, 31, 2);
        told(new BitPlanes(LEAST, LEAST, LEAST, LEAST), 1, 1, 0, 0);
        told(new BitPlanes(MOST, MOST, MOST, MOST), 16, 16, 31, 2);
        told(new BitPlanes(LEAST, MOST, LEAST, MOST), 1, 16, 0, 2);
    }

    private static void told(BitPlanes x, int... due) {
        for (int what = 0; what < due.length; what++) {
            Due.answer("told(" + what + ")", x.told(what), due[what]);
        }
    }

    private static void newSamples() {
        Due.by("Promise 1: its samples are 0.");
        BitPlanes x = new BitPlanes(16, 16, 31, 2);
        for (int i = 0; i < 256; i++) {
            Due.answer("sample " + i, x.put(i % 16, i / 16, 0), 0);
        }
        Due.answer("paint(0, 0)", new BitPlanes(16, 16, 0, 0).paint(0, 0), 0);
    }

    private static void newWithoutPassesAndBits() {
        Due.by("Promise 1: A new object");
        BitPlanes x = new BitPlanes(2, 3, 7, 1);
        told(x, 2, 3, 7, 1, 0, 0, 0);
        Due.answer("bits()", x.bits(), 0);
        Blocks.read(x, "0/0 0/0 0/0 0/0 0/0 0/0");
    }

    private static void putAtTheCorners() {
        Due.by("Promise 2: A sample's value");
        BitPlanes x = new BitPlanes(16, 16, 0, 0);
        int[][] corners = {{0, 0}, {15, 0}, {0, 15}, {15, 15}};
        for (int i = 0; i < 4; i++) {
            Due.answer("put of corner " + i, x.put(corners[i][0], corners[i][1], i + 1), 0);
        }
        for (int i = 0; i < 4; i++) {
            Due.answer("corner " + i, x.put(corners[i][0], corners[i][1], 0), i + 1);
        }
        Due.answer("paint(0, 0) behind it", x.paint(0, 0), 0);
    }

    private static void putOutside() {
        Due.by("IndexOutOfBounds: there is no such sample");
        int[][] outside = {{-1, 0}, {0, -1}, {3, 0}, {0, 2}, {3, 2}, {-1, -1}, {-1, 1}, {3, -1}, {-1, 2},
            {16, 0}, {0, 16}, {LEAST, 0}, {0, LEAST}, {MOST, 0}, {0, MOST}, {MOST, MOST}, {LEAST, LEAST}};
        for (int[] place : outside) {
            BitPlanes x = Blocks.of(3, 0, 0, 1, 2, 3, 4, 5, 6);
            Due.exception("put(" + place[0] + ", " + place[1] + ", 9)", INDEX,
                () -> x.put(place[0], place[1], 9));
            Blocks.samples(x, "1 2 3 4 5 6");
        }
    }

    private static void putTheOneBefore() {
        Due.by("Promise 2: A sample's value: the one before.");
        BitPlanes x = new BitPlanes(1, 1, 0, 0);
        Due.answer("put of the largest", x.put(0, 0, 32767), 0);
        Due.answer("put of the same", x.put(0, 0, 32767), 32767);
        Due.answer("put of the smallest", x.put(0, 0, -32767), 32767);
        Due.answer("put of zero", x.put(0, 0, 0), -32767);
        Due.answer("put of zero", x.put(0, 0, 0), 0);
    }

    private static void paintRowByRow() {
        Due.by("Promise 3: All samples, row by row: v, then each one step more");
        BitPlanes x = new BitPlanes(3, 2, 0, 0);
        x.paint(-2, 1);
        Blocks.samples(x, "-2 -1 0 1 2 3");
        x.paint(7, 0);
        Blocks.samples(x, "7 7 7 7 7 7");
        x.paint(7, -7);
        Blocks.samples(x, "7 0 -7 -14 -21 -28");
        BitPlanes one = new BitPlanes(1, 1, 0, 0);
        one.paint(5, MOST);
        Blocks.samples(one, "5");
    }

    private static void paintBroughtToTheEdges() {
        Due.by("Promise 3: brought to -32767 .. 32767");
        BitPlanes x = new BitPlanes(4, 1, 0, 0);
        x.paint(32766, 1);
        Blocks.samples(x, "32766 32767 32767 32767");
        x.paint(-32766, -1);
        Blocks.samples(x, "-32766 -32767 -32767 -32767");
        x.paint(32768, -1);
        Blocks.samples(x, "32767 32767 32766 32765");
        x.paint(-32769, 1);
        Blocks.samples(x, "-32767 -32767 -32767 -32766");
        x.paint(MOST, 0);
        Blocks.samples(x, "32767 32767 32767 32767");
        x.paint(LEAST, 0);
        Blocks.samples(x, "-32767 -32767 -32767 -32767");
        // The numbers go on from where they are, not from where they were brought to.
        x.paint(-65534, 32767);
        Blocks.samples(x, "-32767 -32767 0 32767");
    }

    private static void paintRunningOver() {
        Due.by("Promise 3: (running over as ints do)");
        BitPlanes x = new BitPlanes(2, 2, 0, 0);
        x.paint(MOST, 1);
        Blocks.samples(x, "32767 -32767 -32767 -32767");
        x.paint(LEAST, -1);
        Blocks.samples(x, "-32767 32767 32767 32767");
        x.paint(3, LEAST);
        Blocks.samples(x, "3 -32767 3 -32767");
        x.paint(3, 1 << 30);
        Blocks.samples(x, "3 32767 -32767 -32767");
        x.paint(-1, MOST);
        Blocks.samples(x, "-1 32767 -3 32767");
        BitPlanes whole = new BitPlanes(16, 16, 0, 0);
        whole.paint(9, 1 << 24);
        // 128 steps make half of all ints: the second half of the block begins at the least ones.
        Due.answer("sample 127", whole.put(15, 7, 0), 32767);
        Due.answer("sample 128", whole.put(0, 8, 0), -32767);
        Due.answer("sample 255", whole.put(15, 15, 0), -32767);
    }

    private static void paintHowManyAreOther() {
        Due.by("Promise 3: how many are other ones.");
        BitPlanes x = new BitPlanes(16, 16, 0, 0);
        Due.answer("paint(0, 0) of zeros", x.paint(0, 0), 0);
        Due.answer("paint(1, 0) of zeros", x.paint(1, 0), 256);
        Due.answer("paint(1, 0) again", x.paint(1, 0), 0);
        Due.answer("paint(0, 1) of ones", x.paint(0, 1), 255);
        Due.answer("paint(32767, 0)", x.paint(32767, 0), 256);
        Due.answer("paint brought to the same", x.paint(MOST, 0), 0);
        Due.answer("paint(-32767, 0)", x.paint(-32767, 0), 256);
        Due.answer("paint brought to the same", x.paint(LEAST, 1), 0);
        x.put(3, 9, 1);
        Due.answer("paint of one other", x.paint(-32767, 0), 1);
    }

    private static void encodeHowManyPasses() {
        Due.by("Promise 4: The block is told: how many passes.");
        Due.answer("encode() of 0", Blocks.of(1, 0, 0, 0).encode(), 0);
        Due.answer("encode() of 1", Blocks.of(1, 0, 0, 1).encode(), 1);
        Due.answer("encode() of -1", Blocks.of(1, 0, 0, -1).encode(), 1);
        Due.answer("encode() of 2", Blocks.of(1, 0, 0, 2).encode(), 4);
        Due.answer("encode() of 3", Blocks.of(1, 0, 0, -3).encode(), 4);
        Due.answer("encode() of 4", Blocks.of(1, 0, 0, 4).encode(), 7);
        Due.answer("encode() of 16383", Blocks.of(1, 0, 0, 16383).encode(), 40);
        Due.answer("encode() of -16384", Blocks.of(1, 0, 0, -16384).encode(), 43);
        Due.answer("encode() of 32767", Blocks.of(1, 0, 0, 32767).encode(), 43);
    }

    private static void encodeAnew() {
        Due.by("Promise 4: The block is told");
        BitPlanes x = Blocks.told(1, 0, 0, 5);
        Due.answer("encode() of the same", x.encode(), 7);
        Blocks.line(x, "1/0 0/9 | - | 0/14 | - | - | 1/16 | -");
        x.put(0, 0, 0);
        Due.answer("encode() of zeros", x.encode(), 0);
        Due.answer("bits()", x.bits(), 0);
        Due.answer("told(5)", x.told(5), 0);
        Due.answer("pass(9)", x.pass(9), 0);
        Due.exception("bit(0, 0)", INDEX, () -> x.bit(0, 0));
        Due.exception("length(0)", INDEX, () -> x.length(0));
        x.put(0, 0, -1);
        Due.answer("encode() of -1", x.encode(), 1);
        Blocks.line(x, "1/0 1/9");
    }

    private static void bitsBeforeAnyEncode() {
        Due.by("Promise 5: How many bits the latest encode() told.");
        BitPlanes x = Blocks.of(1, 31, 0, 9);
        Due.answer("bits()", x.bits(), 0);
        Due.exception("bit(0, 0)", INDEX, () -> x.bit(0, 0));
    }

    private static void bitsOfTheLatestEncode() {
        Due.by("Promise 5: How many bits the latest encode() told.");
        BitPlanes x = Blocks.told(1, 0, 0, 5);
        Due.answer("bits() of 5", x.bits(), 4);
        x.put(0, 0, 1);
        Due.answer("bits() behind put", x.bits(), 4);
        x.paint(0, 0);
        Due.answer("bits() behind paint", x.bits(), 4);
        x.pass(2);
        x.feed(1);
        x.decode(1, 1);
        Due.answer("bits() behind decode", x.bits(), 4);
        Blocks.line(x, "1/0 0/9 | - | 0/14 | - | - | 1/16 | -");
        x.encode();
        Due.answer("bits() of zeros", x.bits(), 0);
    }

    private static void bitsAtMost() {
        Due.by("Promise 5: How many bits the latest encode() told.");
        // Every second column begins each stripe with a 1, by a bit for the column and two for its
        // place; all else is told one by one.
        BitPlanes x = new BitPlanes(16, 16, 16, 0);
        x.paint(16383, 0);
        for (int i = 0; i < 32; i++) {
            x.put(i % 8 * 2, i / 8 * 4, -32767);
        }
        Due.answer("encode()", x.encode(), 43);
        Due.answer("bits()", x.bits(), 256 * 16 + 32 * 2 + 15 * 4);
        Due.answer("pass(MOST)", x.pass(MOST), 4220);
        Due.answer("decode(15, 43)", x.decode(15, 43), 43);
        for (int i = 0; i < 256; i++) {
            boolean high = i / 16 % 4 == 0 && i % 2 == 0;
            Due.answer("at of " + i, x.at(i % 16, i / 16), high ? -32767 : 16383);
        }
    }

    private static void bitFirstAndLast() {
        Due.by("Promise 6: Bit i of these (what = 0), its context (1), its pass (2).");
        BitPlanes x = Blocks.told(1, 1, 0, -32767);
        Due.answer("bit(0, 0)", x.bit(0, 0), 1);
        Due.answer("bit(0, 1)", x.bit(0, 1), 0);
        Due.answer("bit(0, 2)", x.bit(0, 2), 0);
        Due.answer("bit(1, 1)", x.bit(1, 1), 9);
        Due.answer("bits()", x.bits(), 16);
        Due.answer("bit(15, 0)", x.bit(15, 0), 1);
        Due.answer("bit(15, 1)", x.bit(15, 1), BitPlanes.RAW);
        Due.answer("bit(15, 2)", x.bit(15, 2), 41);
    }

    private static void bitOutside() {
        Due.by("IndexOutOfBounds: there is no such .. bit");
        BitPlanes x = Blocks.told(1, 0, 0, -5);
        int[] others = {-1, 4, 5, 4220, 12000, LEAST, MOST};
        for (int i : others) {
            for (int what = 0; what < 3; what++) {
                int one = what;
                Due.exception("bit(" + i + ", " + what + ")", INDEX, () -> x.bit(i, one));
            }
        }
        Due.answer("bit(3, 0)", x.bit(3, 0), 1);
    }

    private static void bitOfAnotherWhat() {
        Due.by("IllegalArgument: another number is none that is told.");
        BitPlanes x = Blocks.told(1, 0, 0, -5);
        int[] others = {-1, 3, 4, LEAST, MOST};
        for (int what : others) {
            Due.exception("bit(0, " + what + ")", ARGUMENT, () -> x.bit(0, what));
            Due.exception("bit(3, " + what + ")", ARGUMENT, () -> x.bit(3, what));
        }
    }

    private static void lengthOfEmptyPasses() {
        Due.by("Promise 7: How many bits passes up to one have together");
        BitPlanes x = Blocks.told(1, 0, 0, -5);
        int[] due = {2, 2, 3, 3, 3, 4, 4};
        for (int pass = 0; pass < 7; pass++) {
            Due.answer("length(" + pass + ")", x.length(pass), due[pass]);
        }
    }

    private static void lengthUpToTheLast() {
        Due.by("Promise 7: How many bits passes up to one have together");
        int[] samples = {9, 0, -3, 0, 1, 7, 0, 0, 0, 0};
        for (int style = 0; style < 32; style++) {
            BitPlanes x = Blocks.told(2, style, 1, samples);
            int passes = x.told(5);
            Due.answer("length of the last pass", x.length(passes - 1), x.bits());
            for (int i = 0; i < x.bits(); i += 7) {
                int pass = x.bit(i, 2);
                Due.answer("bit " + i + " is before its pass's end", i < x.length(pass), true);
                Due.answer("bit " + i + " is not of the pass before",
                    pass == 0 || i >= x.length(pass - 1), true);
            }
        }
    }

    private static void lengthAtTheLatestEncode() {
        Due.by("Promise 7: at the latest encode().");
        BitPlanes x = Blocks.told(1, 0, 0, 5);
        x.put(0, 0, 1);
        Due.answer("length(6) behind put", x.length(6), 4);
        x.encode();
        Due.answer("length(0) told anew", x.length(0), 2);
        Due.exception("length(1) told anew", INDEX, () -> x.length(1));
    }

    private static void distortionBehindTheLast() {
        Due.by("Promise 8: The sum of squares of what is not known yet of samples' sizes behind a pass");
        BitPlanes x = Blocks.told(3, 0, 0, -7, 0, 1);
        // 7 is 4 behind pass 0 and 6 behind the refining; the one is found by a cleanup.
        long[] due = {9 + 1, 9 + 1, 1 + 1, 1 + 1, 1 + 1, 0 + 1, 0};
        for (int pass = 0; pass < 7; pass++) {
            Due.answer("distortion(" + pass + ")", x.distortion(pass), due[pass]);
        }
        Due.answer("distortion(0) of 1", Blocks.told(1, 0, 0, -1).distortion(0), 0);
    }

    private static void distortionOfWhatIsFound() {
        Due.by("Promise 8: what is not known yet of samples' sizes");
        // Samples that are not found count whole, whatever their sign.
        BitPlanes x = Blocks.told(2, 0, 0, 8, -3);
        long[] due = {9, 9, 9, 9, 1, 1, 1, 1, 0, 0};
        for (int pass = 0; pass < 10; pass++) {
            Due.answer("distortion(" + pass + ")", x.distortion(pass), due[pass]);
        }
    }

    private static void distortionBeyondAnInt() {
        Due.by("Promise 8: long distortion(int pass)");
        BitPlanes x = new BitPlanes(16, 16, 0, 0);
        x.paint(-32767, 0);
        x.encode();
        Due.answer("distortion(0)", x.distortion(0), 256L * 16383 * 16383);
        Due.answer("distortion(1)", x.distortion(1), 256L * 16383 * 16383);
        Due.answer("distortion(2)", x.distortion(2), 256L * 8191 * 8191);
        Due.answer("distortion(41)", x.distortion(41), 0);
        Due.answer("distortion(42)", x.distortion(42), 0);
    }

    private static void distortionAtTheLatestEncode() {
        Due.by("Promise 8: at the latest encode().");
        BitPlanes x = Blocks.told(1, 0, 0, 5);
        x.put(0, 0, 7);
        Due.answer("distortion(0) behind put", x.distortion(0), 1);
        x.encode();
        Due.answer("distortion(0) told anew", x.distortion(0), 9);
    }

    private static void kindOfFirstAndLast() {
        Due.by("Promise 9: What a pass is: 0 a finding, 1 a refining, 2 a cleanup.");
        BitPlanes x = Blocks.told(1, 0, 0, 32767);
        StringBuilder kinds = new StringBuilder();
        for (int pass = 0; pass < 43; pass++) {
            kinds.append(x.kind(pass));
        }
        Due.outcome("kinds", kinds.toString(), "2" + "012".repeat(14));
        Due.answer("kind(0) of one plane", Blocks.told(1, 0, 0, 1).kind(0), 2);
    }

    private static void terminatedAnew() {
        Due.by("Promise 10: Whether a pass is terminated (told anew for the latest encode()).");
        BitPlanes x = Blocks.told(1, 0, 0, 2);
        Due.answer("terminated(3)", x.terminated(3), true);
        x.put(0, 0, 4);
        Due.answer("terminated(3) behind put", x.terminated(3), true);
        x.encode();
        Due.answer("terminated(3) told anew", x.terminated(3), false);
        Due.answer("terminated(6) told anew", x.terminated(6), true);
        x.put(0, 0, 1);
        x.encode();
        Due.answer("terminated(0) told anew", x.terminated(0), true);
        Due.exception("terminated(1) told anew", INDEX, () -> x.terminated(1) ? 1 : 0);
    }

    private static void passesOutside() {
        Due.by("IndexOutOfBounds: there is no such .. pass");
        refused(new BitPlanes(2, 2, 31, 0), 0);
        refused(Blocks.of(1, 4, 0, 7), 0);
        refused(Blocks.told(1, 4, 0, 0), 0);
        refused(Blocks.told(1, 4, 0, 1), 1);
        int[] others = {-1, 7, 8, 43, LEAST, MOST};
        for (int pass : others) {
            refused(Blocks.told(1, 0, 0, 5), pass);
            refused(Blocks.told(1, 5, 0, 5), pass);
        }
        refused(Blocks.told(1, 5, 0, 32767), 43);
        refused(Blocks.told(1, 5, 0, 32767), -1);
    }

    private static void refused(BitPlanes x, int pass) {
        Due.exception("length(" + pass + ")", INDEX, () -> x.length(pass));
        Due.exception("distortion(" + pass + ")", INDEX, () -> x.distortion(pass));
        Due.exception("kind(" + pass + ")", INDEX, () -> x.kind(pass));
        Due.exception("terminated(" + pass + ")", INDEX, () -> x.terminated(pass) ? 1 : 0);
    }
}
