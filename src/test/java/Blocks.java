/**
 * Blocks for tests, and what was told of them as one line of text. An object answers 512 calls
 * alone, so calls are spared here.
 */
final class Blocks {
    private Blocks() {
    }

    /** A block with these samples, row by row. */
    static BitPlanes of(int width, int style, int band, int... samples) {
        BitPlanes x = new BitPlanes(width, samples.length / width, style, band);
        for (int i = 0; i < samples.length; i++) {
            x.put(i % width, i / width, samples[i]);
        }
        return x;
    }

    /** A block with these samples, told. */
    static BitPlanes told(int width, int style, int band, int... samples) {
        BitPlanes x = of(width, style, band, samples);
        x.encode();
        return x;
    }

    /** A block of zeros with these bits to be read; spaces are for the eye alone. */
    static BitPlanes fed(int width, int height, int style, String bits) {
        BitPlanes x = new BitPlanes(width, height, style, 0);
        for (char bit : bits.toCharArray()) {
            if (bit != ' ') {
                x.feed(bit - '0');
            }
        }
        return x;
    }

    /** The bits of the latest encode() as bit/context, with | between passes and - for an empty one. */
    static String line(BitPlanes x) {
        StringBuilder text = new StringBuilder();
        int bits = x.bits();
        int passes = x.told(5);
        int i = 0;
        for (int pass = 0; pass < passes; pass++) {
            text.append(pass == 0 ? "" : " | ");
            int from = i;
            for (; i < bits && x.bit(i, 2) == pass; i++) {
                text.append(i == from ? "" : " ").append(x.bit(i, 0)).append('/').append(x.bit(i, 1));
            }
            text.append(i == from ? "-" : "");
        }
        return text.toString();
    }

    static void line(BitPlanes x, String due) {
        Due.outcome("the bits", line(x), due);
    }

    /** What is known of all samples by the latest decode(), as value/lowest plane, row by row. */
    static String read(BitPlanes x) {
        StringBuilder text = new StringBuilder();
        int width = x.told(0);
        int all = width * x.told(1);
        for (int i = 0; i < all; i++) {
            text.append(i == 0 ? "" : " ").append(x.at(i % width, i / width));
            text.append('/').append(x.known(i % width, i / width));
        }
        return text.toString();
    }

    static void read(BitPlanes x, String due) {
        Due.outcome("what is read", read(x), due);
    }

    /** All samples, row by row; they stay as they are. */
    static String samples(BitPlanes x) {
        StringBuilder text = new StringBuilder();
        int width = x.told(0);
        int all = width * x.told(1);
        for (int i = 0; i < all; i++) {
            int sample = x.put(i % width, i / width, 0);
            x.put(i % width, i / width, sample);
            text.append(i == 0 ? "" : " ").append(sample);
        }
        return text.toString();
    }

    static void samples(BitPlanes x, String due) {
        Due.outcome("the samples", samples(x), due);
    }

    /** The bits that are to be read; they stay as they are. */
    static String toRead(BitPlanes x) {
        StringBuilder text = new StringBuilder();
        int all = x.told(6);
        for (int i = 0; i < all; i++) {
            x.turn(i);
            text.append(x.turn(i));
        }
        return text.toString();
    }

    static void toRead(BitPlanes x, String due) {
        Due.outcome("the bits to be read", toRead(x), due);
    }
}
