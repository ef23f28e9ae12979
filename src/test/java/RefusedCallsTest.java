/**
 * "Of several that a call names, the first one. A call that throws changes nothing.": every call
 * that the document refuses, in several states of an object. Each object has 512 calls at most.
 */
public final class RefusedCallsTest {
    private static final int LEAST = Integer.MIN_VALUE;
    private static final int MOST = Integer.MAX_VALUE;

    private static final String INDEX = "throws.IndexOutOfBoundsException";
    private static final String ARGUMENT = "throws.IllegalArgumentException";
    private static final String UNSUPPORTED = "throws.UnsupportedOperationException";

    /** A call that is refused. */
    private interface Refused {
        long on(BitPlanes x);
    }

    /** Makes an object, always in the same state. */
    private interface Maker {
        BitPlanes make();
    }

    public static void main(String[] args) {
        Maker[] makers = {RefusedCallsTest::fresh, RefusedCallsTest::told, RefusedCallsTest::read,
            RefusedCallsTest::cleared};
        for (Maker maker : makers) {
            samplesOutside(maker);
            valuesOutside(maker);
            bitsOutside(maker);
            passesOutside(maker);
            readingOutside(maker);
        }
        nothingToldOfABit();
        fullOfBits();
        theFirstOfSeveral();
        Due.end();
    }

    private static BitPlanes fresh() {
        return new BitPlanes(3, 2, 0, 0);
    }

    private static BitPlanes told() {
        BitPlanes x = Blocks.told(3, 17, 2, -5, 0, 1, 0, 2, 0);
        x.put(1, 0, 7);
        return x;
    }

    private static BitPlanes read() {
        BitPlanes x = told();
        x.pass(20);
        x.feed(1);
        x.decode(3, 2);
        return x;
    }

    private static BitPlanes cleared() {
        BitPlanes x = read();
        x.clear();
        return x;
    }

    /** All that can be asked of an object: what it answers is what it holds. */
    private static String state(BitPlanes x) {
        StringBuilder text = new StringBuilder();
        for (int what = 0; what < 7; what++) {
            text.append(x.told(what)).append(' ');
        }
        text.append(x.bits()).append("; ").append(Blocks.line(x)).append("; ");
        int passes = x.told(5);
        for (int pass = 0; pass < passes; pass++) {
            text.append(x.length(pass)).append(' ').append(x.distortion(pass)).append(' ');
            text.append(x.kind(pass)).append(x.terminated(pass)).append(' ');
        }
        text.append("; ").append(Blocks.read(x)).append("; ").append(Blocks.samples(x));
        return text.append("; ").append(Blocks.toRead(x)).toString();
    }

    private static void refused(Maker maker, String due, String name, Refused call) {
        BitPlanes x = maker.make();
        Due.by("IndexOutOfBounds: there is no such sample, bit, or pass. IllegalArgument: another number is "
            + "none that is told.");
        Due.outcome(name, Due.outcome(() -> call.on(x)), due);
        Due.by("A call that throws changes nothing.");
        Due.outcome("the state behind " + name, state(x), state(maker.make()));
    }

    private static void samplesOutside(Maker maker) {
        int[][] places = {{-1, 0}, {3, 0}, {0, -1}, {0, 2}, {LEAST, 1}, {MOST, 1}, {1, LEAST}, {1, MOST}};
        for (int[] place : places) {
            int column = place[0];
            int row = place[1];
            refused(maker, INDEX, "put outside", x -> x.put(column, row, 4));
            refused(maker, INDEX, "put of too much outside", x -> x.put(column, row, 32768));
            refused(maker, INDEX, "at outside", x -> x.at(column, row));
            refused(maker, INDEX, "known outside", x -> x.known(column, row));
        }
    }

    private static void valuesOutside(Maker maker) {
        int[] values = {32768, -32768, LEAST, MOST};
        for (int value : values) {
            refused(maker, ARGUMENT, "put of " + value, x -> x.put(2, 1, value));
        }
    }

    private static void bitsOutside(Maker maker) {
        int bits = maker.make().bits();
        int[] others = {-1, bits, bits + 1, LEAST, MOST};
        for (int i : others) {
            refused(maker, INDEX, "bit(" + i + ", 0)", x -> x.bit(i, 0));
            refused(maker, INDEX, "bit(" + i + ", 2)", x -> x.bit(i, 2));
            refused(maker, INDEX, "bit(" + i + ", 3)", x -> x.bit(i, 3));
            refused(maker, INDEX, "bit(" + i + ", -1)", x -> x.bit(i, -1));
        }
    }

    private static void nothingToldOfABit() {
        int[] whats = {-1, 3, LEAST, MOST};
        for (int what : whats) {
            refused(RefusedCallsTest::told, ARGUMENT, "bit(0, " + what + ")", x -> x.bit(0, what));
            refused(RefusedCallsTest::read, ARGUMENT, "bit(1, " + what + ")", x -> x.bit(1, what));
        }
    }

    private static void passesOutside(Maker maker) {
        int passes = maker.make().told(5);
        int[] others = {-1, passes, passes + 1, 43, LEAST, MOST};
        for (int pass : others) {
            refused(maker, INDEX, "length(" + pass + ")", x -> x.length(pass));
            refused(maker, INDEX, "distortion(" + pass + ")", x -> x.distortion(pass));
            refused(maker, INDEX, "kind(" + pass + ")", x -> x.kind(pass));
            refused(maker, INDEX, "terminated(" + pass + ")", x -> x.terminated(pass) ? 1 : 0);
        }
    }

    private static void readingOutside(Maker maker) {
        int toRead = maker.make().told(6);
        int[] others = {-1, toRead, toRead + 1, 12000, LEAST, MOST};
        for (int i : others) {
            refused(maker, INDEX, "turn(" + i + ")", x -> x.turn(i));
        }
        int[] bits = {-1, 2, LEAST, MOST};
        for (int bit : bits) {
            refused(maker, ARGUMENT, "feed(" + bit + ")", x -> x.feed(bit));
        }
        refused(maker, ARGUMENT, "pass(-1)", x -> x.pass(-1));
        refused(maker, ARGUMENT, "pass(LEAST)", x -> x.pass(LEAST));
        int[][] wrong = {{-1, 3}, {16, 3}, {3, -1}, {0, -1}, {LEAST, 0}, {MOST, 0}, {2, LEAST}, {16, -1}};
        for (int[] one : wrong) {
            refused(maker, ARGUMENT, "decode(" + one[0] + ", " + one[1] + ")",
                x -> x.decode(one[0], one[1]));
        }
    }

    /** With 16 x 16 samples, of which all bits lie three times in the row to be read: it is full. */
    private static BitPlanes full(int lessThanFull) {
        BitPlanes x = new BitPlanes(16, 16, 0, 0);
        x.paint(-20000, 157);
        x.encode();
        x.pass(MOST);
        x.pass(MOST);
        while (x.told(6) < 12000 - lessThanFull) {
            x.pass(12000 - lessThanFull - x.told(6));
        }
        return x;
    }

    private static String stateOfFull(BitPlanes x) {
        int decoded = x.decode(15, 43);
        StringBuilder text = new StringBuilder();
        text.append(x.told(6)).append(' ').append(x.bits()).append(' ').append(decoded).append(' ');
        for (int i = 0; i < 128; i++) {
            text.append(x.at(i % 16, i / 8)).append(' ');
        }
        for (int i = 0; i < 60; i++) {
            text.append(x.turn(i)).append(x.turn(x.told(6) - 1 - i));
        }
        return text.toString();
    }

    private static void refusedWhenFull(int lessThanFull, String due, String name, Refused call) {
        BitPlanes x = full(lessThanFull);
        Due.by("UnsupportedOperation: there would be more bits than 12000.");
        Due.outcome(name, Due.outcome(() -> call.on(x)), due);
        Due.by("A call that throws changes nothing.");
        Due.outcome("the state behind " + name, stateOfFull(x), stateOfFull(full(lessThanFull)));
    }

    private static void fullOfBits() {
        refusedWhenFull(0, UNSUPPORTED, "feed(0)", x -> x.feed(0));
        refusedWhenFull(0, UNSUPPORTED, "feed(1)", x -> x.feed(1));
        refusedWhenFull(0, UNSUPPORTED, "pass(1)", x -> x.pass(1));
        refusedWhenFull(0, UNSUPPORTED, "pass(MOST)", x -> x.pass(MOST));
        refusedWhenFull(1, UNSUPPORTED, "pass(2)", x -> x.pass(2));
        refusedWhenFull(1, UNSUPPORTED, "pass(MOST)", x -> x.pass(MOST));
        refusedWhenFull(100, UNSUPPORTED, "pass(101)", x -> x.pass(101));
        refusedWhenFull(0, INDEX, "turn(12000)", x -> x.turn(12000));
    }

    private static void theFirstOfSeveral() {
        Maker told = RefusedCallsTest::told;
        refused(told, INDEX, "put(3, 0, 32768)", x -> x.put(3, 0, 32768));
        refused(told, INDEX, "put(0, -1, -32768)", x -> x.put(0, -1, -32768));
        refused(told, INDEX, "bit(-1, 3)", x -> x.bit(-1, 3));
        refused(RefusedCallsTest::fresh, INDEX, "bit(0, 3)", x -> x.bit(0, 3));
        refusedWhenFull(0, ARGUMENT, "feed(2)", x -> x.feed(2));
        refusedWhenFull(0, ARGUMENT, "feed(-1)", x -> x.feed(-1));
        refusedWhenFull(0, ARGUMENT, "pass(-1)", x -> x.pass(-1));
        refusedWhenFull(0, ARGUMENT, "pass(LEAST)", x -> x.pass(LEAST));
    }
}
