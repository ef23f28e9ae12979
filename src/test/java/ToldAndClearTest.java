/** Promises 17 and 18: told and clear. */
public final class ToldAndClearTest {
    public static void main(String[] args) {
        toldOfANewObject();
        planesOfTheSamples();
        passesOfTheLatestEncode();
        bitsToBeRead();
        cleared();
        usedAgainBehindClear();
        Due.end();
    }

    private static void toldOfANewObject() {
        BitPlanes x = new BitPlanes(5, 7, 13, 1);
        int[] due = {5, 7, 13, 1, 0, 0, 0};
        for (int what = 0; what < due.length; what++) {
            Due.answer("told(" + what + ")", x.told(what), due[what]);
        }
        int[] others = {-1, 7, 8, Integer.MIN_VALUE, Integer.MAX_VALUE};
        for (int what : others) {
            Due.answer("told(" + what + ")", x.told(what), BitPlanes.NONE);
        }
    }

    private static void planesOfTheSamples() {
        BitPlanes x = new BitPlanes(2, 2, 0, 0);
        int[][] due = {{1, 1}, {-1, 1}, {2, 2}, {-3, 2}, {4, 3}, {255, 8}, {-256, 9},
            {16383, 14}, {16384, 15}, {-32767, 15}, {0, 0}};
        for (int[] one : due) {
            x.put(1, 1, one[0]);
            Due.answer("told(4) of " + one[0], x.told(4), one[1]);
        }
        x.put(0, 0, 5);
        x.encode();
        x.put(0, 0, 0);
        x.put(1, 0, -1);
        Due.answer("told(4) of the samples now", x.told(4), 1);
        x.decode(9, 0);
        Due.answer("told(4) behind decode", x.told(4), 1);
    }

    private static void passesOfTheLatestEncode() {
        BitPlanes x = new BitPlanes(2, 2, 0, 0);
        for (int planes = 1; planes <= 15; planes++) {
            x.put(1, 0, -(1 << planes - 1));
            int before = x.told(5);
            Due.answer("told(5) before encode()", before, planes == 1 ? 0 : 3 * planes - 5);
            Due.answer("encode()", x.encode(), 3 * planes - 2);
            Due.answer("told(5)", x.told(5), 3 * planes - 2);
        }
    }

    private static void bitsToBeRead() {
        BitPlanes x = new BitPlanes(1, 1, 0, 0);
        x.put(0, 0, 1);
        x.encode();
        Due.answer("told(6)", x.told(6), 0);
        x.pass(1);
        x.feed(0);
        x.turn(0);
        x.decode(1, 1);
        Due.answer("told(6)", x.told(6), 2);
    }

    private static void cleared() {
        BitPlanes x = new BitPlanes(3, 6, 17, 2);
        x.paint(-9, 5);
        x.encode();
        x.pass(99);
        x.decode(9, 99);
        x.clear();
        int[] due = {3, 6, 17, 2, 0, 0, 0};
        for (int what = 0; what < due.length; what++) {
            Due.answer("told(" + what + ") behind clear", x.told(what), due[what]);
        }
        Due.answer("bits() behind clear", x.bits(), 0);
        Due.exception("bit(0, 0)", IndexOutOfBoundsException.class, () -> x.bit(0, 0));
        Due.exception("length(0)", IndexOutOfBoundsException.class, () -> x.length(0));
        Due.exception("distortion(0)", IndexOutOfBoundsException.class, () -> x.distortion(0));
        Due.exception("kind(0)", IndexOutOfBoundsException.class, () -> x.kind(0));
        Due.exception("terminated(0)", IndexOutOfBoundsException.class,
            () -> x.terminated(0) ? 1 : 0);
        Due.exception("turn(0)", IndexOutOfBoundsException.class, () -> x.turn(0));
        Due.answer("pass(5) behind clear", x.pass(5), 0);
        for (int y = 0; y < 6; y++) {
            for (int column = 0; column < 3; column++) {
                Due.answer("at behind clear", x.at(column, y), 0);
                Due.answer("known behind clear", x.known(column, y), 0);
                Due.answer("put behind clear", x.put(column, y, 0), 0);
            }
        }
        Due.answer("encode() behind clear", x.encode(), 0);
        Due.answer("decode(2, 1) behind clear", x.decode(2, 1), 0);
        Due.answer("known(0, 0)", x.known(0, 0), 2);
    }

    /** Bits that were to be read before are not to be seen through those that come after. */
    private static void usedAgainBehindClear() {
        BitPlanes x = new BitPlanes(1, 1, 0, 0);
        for (int i = 0; i < 100; i++) {
            x.feed(1);
        }
        x.clear();
        for (int i = 0; i < 100; i++) {
            Due.answer("feed(0)", x.feed(0), i + 1);
        }
        for (int i = 0; i < 100; i++) {
            Due.answer("turn(" + i + ")", x.turn(i), 1);
        }
    }
}
