import java.util.Random;

/**
 * All promises: runs of calls by chance (always the same ones), each call compared with the model.
 * No object has more than the 512 calls that the document promises.
 */
public final class RandomRunsTest {
    private static final int RUNS = 6000;
    private static final int MOST_CALLS = 512;
    private static final int[] ODD_NUMBERS = {-1, 0, 1, 2, 3, 15, 16, 17, 43, 12000, 32767, 32768,
        -32767, -32768, Integer.MIN_VALUE, Integer.MAX_VALUE};

    private final Random chance;
    private final BitPlanes x;
    private final Model m;
    private final String name;
    private int calls = 0;

    private RandomRunsTest(int run) {
        chance = new Random(run);
        int width = side();
        int height = side();
        int style = chance.nextInt(10) == 0 ? odd() : chance.nextInt(32);
        int band = chance.nextInt(10) == 0 ? odd() : chance.nextInt(3);
        name = "run " + run + " (" + width + ", " + height + ", " + style + ", " + band + "): ";
        x = new BitPlanes(width, height, style, band);
        m = new Model(width, height, style, band);
    }

    public static void main(String[] args) {
        for (int run = 0; run < RUNS && Due.noneIsWrong(); run++) {
            RandomRunsTest test = new RandomRunsTest(run);
            switch (run % 3) {
                case 0: test.callAtRandom(); break;
                case 1: test.tellOnce(); break;
                default: test.readOnce(); break;
            }
        }
        Due.end();
    }

    private int odd() {
        return ODD_NUMBERS[chance.nextInt(ODD_NUMBERS.length)];
    }

    private int side() {
        return chance.nextInt(12) == 0 ? odd() : 1 + chance.nextInt(16);
    }

    /** Mostly below a bound, at times at its edges or far away. */
    private int about(int bound) {
        switch (chance.nextInt(12)) {
            case 0: return bound;
            case 1: return -1;
            case 2: return bound - 1;
            case 3: return odd();
            default: return bound < 1 ? 0 : chance.nextInt(bound);
        }
    }

    private int value() {
        switch (chance.nextInt(10)) {
            case 0: return odd();
            case 1: return 0;
            default: return chance.nextInt(1 << 1 + chance.nextInt(15)) * (chance.nextBoolean() ? 1 : -1);
        }
    }

    private void due(String call, Due.Call got, Due.Call want) {
        if (calls < MOST_CALLS) {
            calls++;
            Due.outcome(name + call, Due.outcome(got), Due.outcome(want));
        }
    }

    private void callAtRandom() {
        while (calls < MOST_CALLS) {
            switch (chance.nextInt(12)) {
                case 0: tellAll(); break;
                case 1: readSome(); break;
                case 2: askBits(); break;
                case 3: askPasses(); break;
                case 4: askRead(); break;
                case 5: paint(); break;
                case 6: feed(); break;
                case 7: turn(); break;
                case 8: clearAtTimes(); break;
                default: put(); break;
            }
            int what = chance.nextInt(9) - 1;
            due("told(" + what + ")", () -> x.told(what), () -> m.told(what));
        }
    }

    /** Many bits of one telling. */
    private void tellOnce() {
        putMany();
        tellAll();
        for (int p = 0; p < m.passes; p++) {
            askPass(p);
        }
        while (calls < MOST_CALLS) {
            int i = chance.nextInt(Math.max(1, m.bits()));
            for (int what = 0; what < 3; what++) {
                askBit(i, what);
            }
        }
    }

    /** Many samples of one reading: up to a pass, or with a bit less than that pass needs. */
    private void readOnce() {
        putMany();
        tellAll();
        int p = chance.nextInt(Math.max(1, m.passes));
        int n = m.passes == 0 ? 0 : Math.max(0, m.length(p) - chance.nextInt(2));
        due("pass(" + n + ")", () -> x.pass(n), () -> m.pass(n));
        if (chance.nextInt(4) == 0) {
            turn();
        }
        int planes = m.told(4);
        due("decode(" + planes + ", " + (p + 1) + ")",
            () -> x.decode(planes, p + 1), () -> m.decode(planes, p + 1));
        while (calls < MOST_CALLS) {
            askRead();
        }
    }

    private void putMany() {
        if (chance.nextBoolean()) {
            paint();
        }
        int some = chance.nextInt(60);
        for (int i = 0; i < some; i++) {
            put();
        }
    }

    private void put() {
        int column = about(m.width);
        int line = about(m.height);
        int v = value();
        due("put(" + column + ", " + line + ", " + v + ")",
            () -> x.put(column, line, v), () -> m.put(column, line, v));
    }

    private void paint() {
        int v = value();
        int step = chance.nextInt(3) == 0 ? chance.nextInt(9) - 4 : value();
        if (chance.nextInt(4) == 0) {
            due("paint(" + v + ", " + step + ")", () -> x.paint(v, step), () -> m.paint(v, step));
        }
    }

    private void tellAll() {
        due("encode()", () -> x.encode(), () -> m.encode());
        due("bits()", () -> x.bits(), () -> m.bits());
    }

    private void askBits() {
        askBit(about(m.bits()), chance.nextInt(5) - 1);
    }

    private void askBit(int i, int what) {
        due("bit(" + i + ", " + what + ")", () -> x.bit(i, what), () -> m.bit(i, what));
    }

    private void askPasses() {
        askPass(about(m.passes));
    }

    private void askPass(int p) {
        due("length(" + p + ")", () -> x.length(p), () -> m.length(p));
        due("distortion(" + p + ")", () -> x.distortion(p), () -> m.distortion(p));
        due("kind(" + p + ")", () -> x.kind(p), () -> m.kind(p));
        due("terminated(" + p + ")",
            () -> x.terminated(p) ? 1 : 0, () -> m.terminated(p) ? 1 : 0);
    }

    private void feed() {
        for (int i = 0; i < 20; i++) {
            int bit = chance.nextInt(30) == 0 ? odd() : chance.nextInt(2);
            due("feed(" + bit + ")", () -> x.feed(bit), () -> m.feed(bit));
        }
        int n = about(m.bits());
        due("pass(" + n + ")", () -> x.pass(n), () -> m.pass(n));
    }

    private void turn() {
        int i = about(m.toRead.size());
        due("turn(" + i + ")", () -> x.turn(i), () -> m.turn(i));
    }

    private void readSome() {
        int planes = chance.nextInt(3) == 0 ? about(16) : m.told(4);
        int passes = chance.nextInt(2) == 0 ? about(44) : m.passes;
        due("decode(" + planes + ", " + passes + ")",
            () -> x.decode(planes, passes), () -> m.decode(planes, passes));
        for (int i = 0; i < 8; i++) {
            askRead();
        }
    }

    private void askRead() {
        int column = about(m.width);
        int line = about(m.height);
        due("at(" + column + ", " + line + ")", () -> x.at(column, line), () -> m.at(column, line));
        due("known(" + column + ", " + line + ")",
            () -> x.known(column, line), () -> m.known(column, line));
    }

    private void clearAtTimes() {
        if (chance.nextInt(6) == 0) {
            due("clear()", () -> cleared(x), () -> cleared(m));
        }
    }

    private static long cleared(BitPlanes one) {
        one.clear();
        return 0;
    }

    private static long cleared(Model one) {
        one.clear();
        return 0;
    }
}
