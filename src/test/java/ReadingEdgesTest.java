/**
 * The edges that "Terms" names for reading, and promises 11 to 18 (feed, pass, turn, decode, at,
 * known, told, clear): one test for each sentence, with its words. Each object has 512 calls at
 * most. What a refused call leaves is in RefusedCallsTest.
 */
public final class ReadingEdgesTest {
    private static final int BYPASS = 1;
    private static final int CAUSAL = 8;
    private static final int MARKS = 16;
    private static final int LEAST = Integer.MIN_VALUE;
    private static final int MOST = Integer.MAX_VALUE;
    private static final Class<IndexOutOfBoundsException> INDEX = IndexOutOfBoundsException.class;
    private static final Class<IllegalArgumentException> ARGUMENT = IllegalArgumentException.class;
    private static final Class<UnsupportedOperationException> UNSUPPORTED =
        UnsupportedOperationException.class;

    public static void main(String[] args) {
        readingBeginsAnew();
        sizesKnownDownToTheLastBit();
        zerosToldAsOneAreKnown();
        whatIsNotKnown();
        feedHowMany();
        feedOfOthers();
        feedUpToTheMost();
        passOfTheFirstBits();
        passOfNone();
        passOfTheLatestEncode();
        passBelowZero();
        passUpToTheMost();
        passJustBeyondTheMost();
        turnTwice();
        turnFirstAndLast();
        turnOutside();
        turnLeavesWhatWasTold();
        decodeNoPlanes();
        decodeNoPasses();
        decodeMorePasses();
        decodeOtherPlanes();
        decodeOtherPasses();
        decodeWhatIsReadStays();
        decodeWhereBitsLack();
        decodeWhereTheSignLacks();
        decodeWhereThePlaceLacks();
        decodePassesWithoutBits();
        decodeWithMoreBits();
        decodeOtherMarks();
        decodeOtherMarksAtLast();
        decodeMarksThatLack();
        decodeMarksThatAreNotWanted();
        decodeWithoutMarks();
        decodeRawBits();
        decodeCausal();
        decodeTheLargest();
        atBefore();
        atOutside();
        atTheLatestDecode();
        knownBefore();
        knownIfNoneIs();
        knownInPart();
        toldOfEach();
        toldOfAnotherWhat();
        clearAll();
        clearTwice();
        clearWhenFull();
        Due.end();
    }

    private static void readingBeginsAnew() {
        Due.by("READING takes bits and finds out the same contexts; it begins anew each time.");
        BitPlanes x = Blocks.fed(1, 1, 0, "1111");
        Due.answer("decode(3, 7)", x.decode(3, 7), 7);
        Blocks.read(x, "-7/0");
        Due.answer("decode(3, 7)", x.decode(3, 7), 7);
        Blocks.read(x, "-7/0");
        Due.answer("decode(4, 1)", x.decode(4, 1), 1);
        Blocks.read(x, "-8/3");
        x.turn(0);
        Due.answer("decode(2, 1)", x.decode(2, 1), 1);
        Blocks.read(x, "0/1");
    }

    private static void sizesKnownDownToTheLastBit() {
        Due.by("Sizes are known from the highest plane down to that of the last bit told of a sample");
        // -4 in pass 0; at its right a one, found in pass 4, its sign turned as -4 is beside it.
        String bits = "110 0 0 11 0";
        String[] due = {"0/3 0/3", "-4/2 0/2", "-4/2 0/1", "-4/1 0/1", "-4/1 0/1", "-4/1 1/0", "-4/0 1/0",
            "-4/0 1/0"};
        for (int passes = 0; passes <= 7; passes++) {
            BitPlanes x = Blocks.fed(2, 1, 0, bits);
            Due.answer("decode(3, " + passes + ")", x.decode(3, passes), passes);
            Blocks.read(x, due[passes]);
        }
    }

    private static void zerosToldAsOneAreKnown() {
        Due.by("Sizes are known from the highest plane down to that of the last bit told of a sample");
        BitPlanes x = Blocks.fed(2, 4, 0, "0 1100 0");
        Due.answer("decode(5, 1)", x.decode(5, 1), 1);
        // The first column is of zeros; of the second the third is found, and those above are zeros.
        Blocks.read(x, "0/4 0/4 0/4 0/4 0/4 16/4 0/4 0/4");
    }

    private static void whatIsNotKnown() {
        Due.by("what is not known counts as 0");
        BitPlanes x = Blocks.fed(1, 1, 0, "11 1 1 1");
        int[] due = {0, -8, -8, -12, -12, -12, -14, -14, -14, -15, -15};
        for (int passes = 0; passes <= 10; passes++) {
            x.decode(4, passes);
            Due.answer("at behind " + passes + " passes", x.at(0, 0), due[passes]);
        }
    }

    private static void feedHowMany() {
        Due.by("Promise 11: A bit comes behind those that are to be read: how many.");
        BitPlanes x = new BitPlanes(1, 1, 0, 0);
        for (int i = 1; i <= 100; i++) {
            Due.answer("feed", x.feed(i % 3 == 0 ? 1 : 0), i);
        }
        Blocks.toRead(x, "001".repeat(33) + "0");
    }

    private static void feedOfOthers() {
        Due.by("Promise 11: IllegalArgument: it is not 0 or 1.");
        int[] others = {-1, 2, 3, 256, LEAST, MOST};
        for (int bit : others) {
            BitPlanes x = Blocks.fed(1, 1, 0, "10");
            Due.exception("feed(" + bit + ")", ARGUMENT, () -> x.feed(bit));
            Blocks.toRead(x, "10");
        }
    }

    /** A block with so many bits to be read, which are those of 16 x 16 samples again and again. */
    private static BitPlanes filled(int bits) {
        BitPlanes x = new BitPlanes(16, 16, 0, 0);
        x.paint(32767, 0);
        x.encode();
        while (x.told(6) < bits) {
            x.pass(bits - x.told(6));
        }
        return x;
    }

    private static final String MORE = "UnsupportedOperation: there would be more bits than 12000.";

    private static void feedUpToTheMost() {
        Due.by(MORE);
        BitPlanes x = filled(11999);
        Due.answer("told(6)", x.told(6), 11999);
        Due.answer("feed(1)", x.feed(1), 12000);
        Due.exception("feed(1)", UNSUPPORTED, () -> x.feed(1));
        Due.exception("feed(0)", UNSUPPORTED, () -> x.feed(0));
        Due.answer("told(6)", x.told(6), 12000);
        Due.answer("turn(11999)", x.turn(11999), 0);
    }

    private static void passOfTheFirstBits() {
        Due.by("Promise 12: The first bits of the latest encode(), n at most, come behind those that are "
            + "to be read: how many.");
        BitPlanes x = Blocks.told(1, 0, 0, -5);
        x.feed(0);
        Due.answer("pass(1)", x.pass(1), 1);
        Due.answer("pass(3)", x.pass(3), 3);
        Due.answer("pass(4)", x.pass(4), 4);
        Due.answer("pass(5)", x.pass(5), 4);
        Due.answer("pass(12001)", x.pass(12001), 4);
        Due.answer("pass(MOST)", x.pass(MOST), 4);
        Blocks.toRead(x, "0" + "1" + "110" + "1101" + "1101" + "1101" + "1101");
    }

    private static void passOfNone() {
        Due.by("Promise 12: n at most");
        BitPlanes x = Blocks.of(1, 0, 0, -5);
        Due.answer("pass(0) before encode()", x.pass(0), 0);
        Due.answer("pass(MOST) before encode()", x.pass(MOST), 0);
        x.encode();
        Due.answer("pass(0)", x.pass(0), 0);
        Due.answer("told(6)", x.told(6), 0);
        x.put(0, 0, 0);
        x.encode();
        Due.answer("pass(MOST) of zeros", x.pass(MOST), 0);
        Due.answer("told(6)", x.told(6), 0);
    }

    private static void passOfTheLatestEncode() {
        Due.by("Promise 12: The first bits of the latest encode()");
        BitPlanes x = Blocks.told(1, 0, 0, -5);
        x.put(0, 0, 1);
        Due.answer("pass(9) behind put", x.pass(9), 4);
        x.encode();
        Due.answer("pass(9) told anew", x.pass(9), 2);
        Blocks.toRead(x, "1101" + "10");
    }

    private static void passBelowZero() {
        Due.by("Promise 12: IllegalArgument: n is below 0.");
        int[] others = {-1, -2, LEAST};
        for (int n : others) {
            BitPlanes x = Blocks.told(1, 0, 0, -5);
            Due.exception("pass(" + n + ")", ARGUMENT, () -> x.pass(n));
            Due.answer("told(6)", x.told(6), 0);
            BitPlanes untold = new BitPlanes(1, 1, 0, 0);
            Due.exception("pass(" + n + ") before encode()", ARGUMENT, () -> untold.pass(n));
        }
    }

    private static void passUpToTheMost() {
        Due.by(MORE);
        BitPlanes x = filled(12000);
        Due.answer("told(6)", x.told(6), 12000);
        Due.answer("pass(0) when full", x.pass(0), 0);
        Due.exception("pass(1) when full", UNSUPPORTED, () -> x.pass(1));
        Due.exception("pass(MOST) when full", UNSUPPORTED, () -> x.pass(MOST));
        x.paint(0, 0);
        x.encode();
        // There is no bit to come behind them, so there would not be more.
        Due.answer("pass(MOST) of no bits when full", x.pass(MOST), 0);
    }

    private static void passJustBeyondTheMost() {
        Due.by(MORE);
        BitPlanes x = filled(11000);
        Due.exception("pass(1001)", UNSUPPORTED, () -> x.pass(1001));
        Due.exception("pass(MOST)", UNSUPPORTED, () -> x.pass(MOST));
        Due.answer("told(6)", x.told(6), 11000);
        Due.answer("pass(1000)", x.pass(1000), 1000);
        Due.answer("told(6)", x.told(6), 12000);
        BitPlanes few = filled(11998);
        few.paint(0, 0);
        few.put(0, 0, 1);
        few.encode();
        Due.answer("there are more than two bits", few.bits() > 2, true);
        Due.exception("pass(3)", UNSUPPORTED, () -> few.pass(3));
        Due.answer("pass(2)", few.pass(2), 2);
    }

    private static void turnTwice() {
        Due.by("Promise 13: A bit that is to be read is turned: the bit then.");
        BitPlanes x = Blocks.fed(1, 1, 0, "010");
        Due.answer("turn(1)", x.turn(1), 0);
        Blocks.toRead(x, "000");
        Due.answer("turn(1)", x.turn(1), 1);
        Blocks.toRead(x, "010");
        Due.answer("turn(0)", x.turn(0), 1);
        Blocks.toRead(x, "110");
    }

    private static void turnFirstAndLast() {
        Due.by("Promise 13: A bit that is to be read is turned: the bit then.");
        BitPlanes x = filled(12000);
        Due.answer("turn(0)", x.turn(0), 0);
        Due.answer("turn(0)", x.turn(0), 1);
        int last = x.turn(11999);
        Due.answer("turn(11999)", x.turn(11999), 1 - last);
        // The edges of the numbers in which bits may lie together.
        int[] edges = {30, 31, 32, 33, 63, 64, 65, 11967, 11968};
        for (int i : edges) {
            int once = x.turn(i);
            Due.answer("turn(" + i + ")", x.turn(i), 1 - once);
        }
    }

    private static void turnOutside() {
        Due.by("IndexOutOfBounds: there is no such .. bit");
        BitPlanes x = Blocks.fed(1, 1, 0, "010");
        int[] others = {-1, 3, 4, 31, 32, 11999, 12000, LEAST, MOST};
        for (int i : others) {
            Due.exception("turn(" + i + ")", INDEX, () -> x.turn(i));
        }
        Blocks.toRead(x, "010");
        BitPlanes none = Blocks.told(1, 0, 0, 3);
        Due.exception("turn(0) of none", INDEX, () -> none.turn(0));
        BitPlanes full = filled(12000);
        Due.exception("turn(12000) of the most", INDEX, () -> full.turn(12000));
        Due.exception("turn(-1) of the most", INDEX, () -> full.turn(-1));
    }

    private static void turnLeavesWhatWasTold() {
        Due.by("Promise 13: A bit that is to be read is turned");
        BitPlanes x = Blocks.told(1, 0, 0, 1);
        x.pass(2);
        x.decode(1, 1);
        x.turn(1);
        Blocks.line(x, "1/0 0/9");
        Blocks.read(x, "1/0");
        x.pass(2);
        Blocks.toRead(x, "1110");
    }

    private static void decodeNoPlanes() {
        Due.by("Promise 14: with so many planes");
        BitPlanes x = Blocks.fed(2, 1, 0, "1111");
        Due.answer("decode(3, 1)", x.decode(3, 1), 1);
        Blocks.read(x, "-4/2 4/2");
        Due.answer("decode(0, 0)", x.decode(0, 0), 0);
        Blocks.read(x, "0/0 0/0");
        x.decode(3, 1);
        Due.answer("decode(0, MOST)", x.decode(0, MOST), 0);
        Blocks.read(x, "0/0 0/0");
        Due.answer("decode(0, 1) of no bits", new BitPlanes(1, 1, 0, 0).decode(0, 1), 0);
    }

    private static void decodeNoPasses() {
        Due.by("Promise 14: as many passes as told");
        BitPlanes x = Blocks.fed(1, 1, MARKS, "110000");
        for (int planes = 0; planes <= 15; planes++) {
            Due.answer("decode(" + planes + ", 0)", x.decode(planes, 0), 0);
            Blocks.read(x, "0/" + planes);
        }
    }

    private static void decodeMorePasses() {
        Due.by("Promise 14: as many passes as told, or as there are");
        BitPlanes x = Blocks.fed(1, 1, 0, "11 0000000 0000000");
        int[] tries = {0, 1, 42, 43, 44, 45, 46, MOST};
        for (int passes : tries) {
            Due.answer("decode(15, " + passes + ")", x.decode(15, passes), Math.min(passes, 43));
        }
        Blocks.read(x, "-16384/0");
        Due.answer("decode(1, 1)", x.decode(1, 1), 1);
        Due.answer("decode(1, 2)", x.decode(1, 2), 1);
        Due.answer("decode(2, 4)", x.decode(2, 4), 4);
        Due.answer("decode(2, 5)", x.decode(2, 5), 4);
    }

    private static void decodeOtherPlanes() {
        Due.by("Promise 14: IllegalArgument: planes are not 0 .. 15");
        int[] others = {-1, 16, 17, 32, LEAST, MOST};
        for (int planes : others) {
            BitPlanes x = Blocks.fed(1, 1, 0, "11");
            x.decode(1, 1);
            Due.exception("decode(" + planes + ", 0)", ARGUMENT, () -> x.decode(planes, 0));
            Due.exception("decode(" + planes + ", 1)", ARGUMENT, () -> x.decode(planes, 1));
            Blocks.read(x, "-1/0");
        }
    }

    private static void decodeOtherPasses() {
        Due.by("Promise 14: IllegalArgument: .. or passes below 0.");
        int[] others = {-1, -2, -43, LEAST};
        for (int passes : others) {
            BitPlanes x = Blocks.fed(1, 1, 0, "11");
            x.decode(1, 1);
            Due.exception("decode(0, " + passes + ")", ARGUMENT, () -> x.decode(0, passes));
            Due.exception("decode(15, " + passes + ")", ARGUMENT, () -> x.decode(15, passes));
            Blocks.read(x, "-1/0");
        }
    }

    private static void decodeWhatIsReadStays() {
        Due.by("Promise 14: What is to be read is read from its beginning .. what is read stays.");
        BitPlanes x = Blocks.fed(1, 1, 0, "1101");
        x.decode(3, 7);
        Due.answer("told(6)", x.told(6), 4);
        Blocks.toRead(x, "1101");
        Due.answer("decode(3, 7) again", x.decode(3, 7), 7);
        Blocks.read(x, "-5/0");
        Due.answer("feed(0)", x.feed(0), 5);
        Due.answer("decode(4, 99)", x.decode(4, 99), 10);
        Blocks.read(x, "-10/0");
    }

    private static final String LACK = "Promise 14: A pass for which bits lack is not done, nor those "
        + "behind it: how many were done";

    private static void decodeWhereBitsLack() {
        Due.by(LACK);
        Due.answer("decode(15, 43) of no bits", new BitPlanes(16, 16, 0, 0).decode(15, 43), 0);
        // Both are refined by two bits in pass 2; with one of them nothing of that pass is done.
        BitPlanes x = Blocks.fed(2, 1, 0, "1010 1");
        Due.answer("decode(2, 4)", x.decode(2, 4), 2);
        Blocks.read(x, "2/1 2/1");
        x.feed(1);
        Due.answer("decode(2, 4)", x.decode(2, 4), 4);
        Blocks.read(x, "3/0 3/0");
        // The passes behind it need no bits, and are not done either.
        BitPlanes one = Blocks.fed(1, 1, 0, "10");
        Due.answer("decode(3, 7)", one.decode(3, 7), 2);
        Blocks.read(one, "4/2");
    }

    private static void decodeWhereTheSignLacks() {
        Due.by(LACK);
        BitPlanes x = Blocks.fed(2, 1, 0, "01");
        Due.answer("decode(3, 7)", x.decode(3, 7), 0);
        Blocks.read(x, "0/3 0/3");
        x.feed(1);
        Due.answer("decode(3, 1)", x.decode(3, 1), 1);
        Blocks.read(x, "0/2 -4/2");
        // In a finding: the left one is told with a one, and no sign.
        x.feed(1);
        Due.answer("decode(3, 7)", x.decode(3, 7), 1);
        Blocks.read(x, "0/2 -4/2");
    }

    private static void decodeWhereThePlaceLacks() {
        Due.by(LACK);
        String bits = "1101";
        for (int length = 0; length < 4; length++) {
            BitPlanes x = Blocks.fed(1, 4, 0, bits.substring(0, length));
            Due.answer("decode(1, 1) of " + length + " bits", x.decode(1, 1), 0);
            Blocks.read(x, "0/1 0/1 0/1 0/1");
        }
        BitPlanes x = Blocks.fed(1, 4, 0, bits + "0");
        Due.answer("decode(1, 1)", x.decode(1, 1), 1);
        Blocks.read(x, "0/0 0/0 -1/0 0/0");
    }

    private static void decodePassesWithoutBits() {
        Due.by(LACK);
        // The finding and the cleanup of a single found sample need none: they lack none.
        BitPlanes x = Blocks.fed(1, 1, 0, "10 0");
        Due.answer("decode(2, 4)", x.decode(2, 4), 4);
        Due.answer("decode(3, 7)", x.decode(3, 7), 5);
        Blocks.read(x, "4/1");
    }

    private static void decodeWithMoreBits() {
        Due.by("Promise 14: What is to be read is read from its beginning");
        BitPlanes x = Blocks.fed(1, 1, 0, "10 1 11111111");
        Due.answer("decode(2, 4)", x.decode(2, 4), 4);
        Blocks.read(x, "3/0");
        Due.answer("told(6)", x.told(6), 11);
    }

    private static final String OTHER_MARKS = "Promise 14: with MARKS, if those of a pass are other bits: "
        + "NONE less that pass, which is done, but none behind it.";

    private static void decodeOtherMarks() {
        Due.by(OTHER_MARKS);
        for (int marks = 0; marks < 16; marks++) {
            String four = Integer.toBinaryString(16 + marks).substring(1);
            boolean right = marks == 10;
            BitPlanes first = Blocks.fed(1, 1, MARKS, "10" + four + "1" + "1010");
            Due.answer("decode(2, 4) with " + four, first.decode(2, 4), right ? 4 : BitPlanes.NONE);
            Blocks.read(first, right ? "3/0" : "2/1");
            BitPlanes later = Blocks.fed(1, 1, MARKS, "10" + "1010" + "1" + four + "1" + "1010");
            Due.answer("decode(3, 7) with " + four, later.decode(3, 7), right ? 7 : BitPlanes.NONE - 3);
            Blocks.read(later, right ? "7/0" : "6/1");
        }
    }

    private static void decodeOtherMarksAtLast() {
        Due.by(OTHER_MARKS);
        BitPlanes x = Blocks.fed(1, 1, MARKS, "10" + "1010" + "1" + "1000");
        Due.answer("decode(2, 3)", x.decode(2, 3), 3);
        Due.answer("decode(2, 4)", x.decode(2, 4), BitPlanes.NONE - 3);
        Due.answer("decode(2, MOST)", x.decode(2, MOST), BitPlanes.NONE - 3);
        Blocks.read(x, "3/0");
        // The very last pass that there can be.
        BitPlanes most = new BitPlanes(1, 1, MARKS, 0);
        most.put(0, 0, 32767);
        most.encode();
        most.pass(MOST);
        most.turn(most.told(6) - 1);
        Due.answer("decode(15, 43)", most.decode(15, 43), BitPlanes.NONE - 42);
        Blocks.read(most, "32767/0");
    }

    private static void decodeMarksThatLack() {
        Due.by(LACK);
        String bits = "10" + "1010" + "1" + "1010";
        for (int length = 2; length < 6; length++) {
            BitPlanes x = Blocks.fed(1, 1, MARKS, bits.substring(0, length));
            Due.answer("decode(2, 4) of " + length, x.decode(2, 4), 0);
            Blocks.read(x, "0/2");
        }
        BitPlanes x = Blocks.fed(1, 1, MARKS, bits.substring(0, 10));
        Due.answer("decode(2, 4)", x.decode(2, 4), 3);
        Blocks.read(x, "3/0");
        // Other bits, but not four of them: these lack.
        BitPlanes both = Blocks.fed(1, 1, MARKS, "10" + "011");
        Due.answer("decode(2, 4)", both.decode(2, 4), 0);
        Blocks.read(both, "0/2");
    }

    private static void decodeMarksThatAreNotWanted() {
        Due.by(OTHER_MARKS);
        // Bits of marks behind the last pass that is wanted are not looked at.
        BitPlanes x = Blocks.fed(1, 1, MARKS, "10" + "1010" + "1" + "0000");
        Due.answer("decode(2, 1)", x.decode(2, 1), 1);
        Due.answer("decode(2, 2)", x.decode(2, 2), 2);
        Due.answer("decode(2, 3)", x.decode(2, 3), 3);
        Blocks.read(x, "3/0");
    }

    private static void decodeWithoutMarks() {
        Due.by("With MARKS, at the end four bits");
        BitPlanes x = Blocks.fed(1, 1, 31 - MARKS, "10" + "0");
        Due.answer("decode(2, 4)", x.decode(2, 4), 4);
        Blocks.read(x, "2/0");
    }

    private static void decodeRawBits() {
        Due.by("BYPASS: .. signs are not turned.");
        String bits = "110 00 00 00 11 0";
        BitPlanes turned = Blocks.fed(2, 1, 0, bits);
        Due.answer("decode(5, 13)", turned.decode(5, 13), 13);
        Blocks.read(turned, "-16/0 1/0");
        BitPlanes raw = Blocks.fed(2, 1, BYPASS, bits);
        Due.answer("decode(5, 13) with BYPASS", raw.decode(5, 13), 13);
        Blocks.read(raw, "-16/0 -1/0");
        // By the number of planes to be read the same bits lie in another pass: pass 7 is not raw.
        BitPlanes before = Blocks.fed(2, 1, BYPASS, "110 00 00 11 0");
        Due.answer("decode(4, 10) with BYPASS", before.decode(4, 10), 10);
        Blocks.read(before, "-8/0 1/0");
    }

    private static void decodeCausal() {
        Due.by("with CAUSAL those in the stripe below are not, either");
        String first = "0 10";
        BitPlanes x = Blocks.fed(1, 5, 0, first + "0 0 000");
        Due.answer("decode(2, 4)", x.decode(2, 4), 4);
        Blocks.read(x, "0/0 0/0 0/0 0/0 2/0");
        BitPlanes causal = Blocks.fed(1, 5, CAUSAL, first + "0 0");
        Due.answer("decode(2, 4) with CAUSAL", causal.decode(2, 4), 4);
        Blocks.read(causal, "0/0 0/0 0/0 0/0 2/0");
    }

    private static void decodeTheLargest() {
        Due.by("Promise 14: IllegalArgument: planes are not 0 .. 15");
        BitPlanes x = Blocks.fed(1, 1, 0, "11 1111111 1111111");
        Due.answer("decode(15, 43)", x.decode(15, 43), 43);
        Blocks.read(x, "-32767/0");
    }

    private static void atBefore() {
        Due.by("Promise 15: What is known of a sample by the latest decode(); 0 before.");
        BitPlanes x = Blocks.told(2, 0, 0, 7, -9);
        x.pass(99);
        Due.answer("at(0, 0)", x.at(0, 0), 0);
        Due.answer("at(1, 0)", x.at(1, 0), 0);
    }

    private static void atOutside() {
        Due.by("IndexOutOfBounds: there is no such sample");
        int[][] outside = {{-1, 0}, {0, -1}, {3, 0}, {0, 2}, {3, 2}, {-1, -1}, {-1, 1}, {3, -1}, {-1, 2},
            {16, 0}, {0, 16}, {LEAST, 0}, {0, LEAST}, {MOST, 0}, {0, MOST}, {MOST, MOST}, {LEAST, LEAST}};
        BitPlanes x = Blocks.told(3, 0, 0, 1, 2, 3, 4, 5, 6);
        for (int[] place : outside) {
            Due.exception("at before", INDEX, () -> x.at(place[0], place[1]));
            Due.exception("known before", INDEX, () -> x.known(place[0], place[1]));
        }
        x.pass(99);
        x.decode(3, 7);
        for (int[] place : outside) {
            Due.exception("at behind", INDEX, () -> x.at(place[0], place[1]));
            Due.exception("known behind", INDEX, () -> x.known(place[0], place[1]));
        }
        Due.answer("at(2, 1)", x.at(2, 1), 6);
    }

    private static void atTheLatestDecode() {
        Due.by("Promise 15: What is known of a sample by the latest decode()");
        BitPlanes x = Blocks.fed(1, 1, 0, "11 0 1");
        x.decode(3, 7);
        x.put(0, 0, 9);
        x.encode();
        x.feed(1);
        x.turn(0);
        Blocks.read(x, "-5/0");
        Due.answer("decode(3, 0)", x.decode(3, 0), 0);
        Blocks.read(x, "0/3");
        x.turn(0);
        x.decode(3, 1);
        Blocks.read(x, "-4/2");
    }

    private static void knownBefore() {
        Due.by("Promise 16: as many as its planes if none is, and before (0)");
        BitPlanes x = Blocks.told(2, 0, 0, 7, -9);
        x.pass(99);
        Due.answer("known(0, 0)", x.known(0, 0), 0);
        Due.answer("known(1, 0)", x.known(1, 0), 0);
    }

    private static void knownIfNoneIs() {
        Due.by("Promise 16: as many as its planes if none is");
        BitPlanes x = new BitPlanes(2, 2, 0, 0);
        for (int planes = 0; planes <= 15; planes++) {
            Due.answer("decode(" + planes + ", 43)", x.decode(planes, 43), 0);
            Due.answer("known(0, 0)", x.known(0, 0), planes);
            Due.answer("known(1, 1)", x.known(1, 1), planes);
        }
    }

    private static void knownInPart() {
        Due.by("Promise 16: The lowest plane whose bit is known of a sample");
        // Passes 1 and 2 of plane 1 tell the second and the first, pass 3 the third.
        BitPlanes x = Blocks.fed(3, 1, 0, "1000 0 0 0");
        String[] due = {"0/2 0/2 0/2", "2/1 0/1 0/1", "2/1 0/0 0/1", "2/0 0/0 0/1", "2/0 0/0 0/0"};
        for (int passes = 0; passes <= 4; passes++) {
            Due.answer("decode(2, " + passes + ")", x.decode(2, passes), passes);
            Blocks.read(x, due[passes]);
        }
    }

    private static void toldOfEach() {
        Due.by("Promise 17: Width (what = 0), height (1), style (2), band (3), planes of the samples (4), "
            + "passes of the latest encode() (5), bits to be read (6)");
        BitPlanes x = Blocks.told(5, 13, 1, 0, 0, 0, 0, 0, 0, 0, 9, 0, 0);
        x.pass(3);
        x.put(2, 1, -2);
        x.decode(7, 2);
        int[] due = {5, 2, 13, 1, 2, 10, 3};
        for (int what = 0; what < 7; what++) {
            Due.answer("told(" + what + ")", x.told(what), due[what]);
        }
    }

    private static void toldOfAnotherWhat() {
        Due.by("Promise 17: NONE for another what.");
        int[] others = {-1, -2, 7, 8, LEAST, MOST};
        for (int what : others) {
            Due.answer("told(" + what + ")", new BitPlanes(2, 2, 0, 0).told(what), BitPlanes.NONE);
            Due.answer("told(" + what + ")", Blocks.told(1, 0, 0, 9).told(what), BitPlanes.NONE);
        }
    }

    private static void asAtFirst(BitPlanes x) {
        int[] due = {2, 2, 21, 1, 0, 0, 0};
        for (int what = 0; what < 7; what++) {
            Due.answer("told(" + what + ")", x.told(what), due[what]);
        }
        Due.answer("bits()", x.bits(), 0);
        Blocks.read(x, "0/0 0/0 0/0 0/0");
        Blocks.samples(x, "0 0 0 0");
        Due.exception("bit(0, 0)", INDEX, () -> x.bit(0, 0));
        Due.exception("length(0)", INDEX, () -> x.length(0));
        Due.exception("distortion(0)", INDEX, () -> x.distortion(0));
        Due.exception("kind(0)", INDEX, () -> x.kind(0));
        Due.exception("terminated(0)", INDEX, () -> x.terminated(0) ? 1 : 0);
        Due.exception("turn(0)", INDEX, () -> x.turn(0));
        Due.answer("pass(MOST)", x.pass(MOST), 0);
        Due.answer("decode(3, 7)", x.decode(3, 7), 0);
        Blocks.read(x, "0/3 0/3 0/3 0/3");
        Due.answer("encode()", x.encode(), 0);
    }

    private static void clearAll() {
        Due.by("Promise 18: Samples are 0; nothing was told, nothing is to be read, nothing was read (all is "
            + "as at first).");
        BitPlanes x = Blocks.told(2, 21, 1, 9, -9, 3, 1);
        x.pass(MOST);
        Due.answer("decode(4, 10)", x.decode(4, 10), 10);
        x.clear();
        asAtFirst(x);
        x.put(1, 1, -1);
        x.encode();
        Blocks.line(x, "0/0 0/0 0/0 1/0 1/9 1/18 0/18 1/18 0/18");
        x.pass(MOST);
        Due.answer("decode(1, 1)", x.decode(1, 1), 1);
        Blocks.read(x, "0/0 0/0 0/0 -1/0");
    }

    private static void clearTwice() {
        Due.by("Promise 18: (all is as at first)");
        BitPlanes x = new BitPlanes(2, 2, 21, 1);
        x.clear();
        asAtFirst(x);
        x.clear();
        x.clear();
        asAtFirst(x);
    }

    private static void clearWhenFull() {
        Due.by("Promise 18: nothing is to be read");
        BitPlanes x = filled(12000);
        x.clear();
        Due.answer("told(6)", x.told(6), 0);
        Due.answer("feed(0)", x.feed(0), 1);
        Due.answer("feed(1)", x.feed(1), 2);
        Blocks.toRead(x, "01");
        Due.exception("turn(2)", INDEX, () -> x.turn(2));
    }
}
