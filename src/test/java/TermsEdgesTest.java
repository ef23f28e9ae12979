/**
 * The edges that "What it is" and "Terms" name, up to the neighbours of a sample: one test for each
 * sentence, with its words. Each object has 512 calls at most.
 */
public final class TermsEdgesTest {
    private static final int BYPASS = 1;
    private static final int CAUSAL = 8;
    private static final int MARKS = 16;
    private static final int LEAST = Integer.MIN_VALUE;
    private static final int MOST = Integer.MAX_VALUE;

    public static void main(String[] args) {
        usedFor512Calls();
        nearestWidth();
        nearestHeight();
        nearestStyle();
        nearestBand();
        samplesAtTheirEdges();
        samplesBeyondTheirEdges();
        styleOfTwo();
        noPlanes();
        highestPlaneThatAnyHas();
        lowestPlane();
        passesOfPlanes();
        stripesOfAllHeights();
        lastStripeOfLess();
        foundByABitOfOne();
        neighboursBeyondTheSides();
        neighboursAboveAndBelowTheBlock();
        signsBeyondTheSides();
        noNeighbourAtAll();
        causalBelow();
        causalCornerBelow();
        causalAbove();
        causalSignBelow();
        causalRefining();
        causalInsideOfAStripe();
        Due.end();
    }

    private static void usedFor512Calls() {
        Due.by("An object is used for at most 512 calls after it has been made");
        BitPlanes x = new BitPlanes(1, 1, 0, 0);
        for (int call = 1; call <= 512; call++) {
            Due.answer("feed as call " + call, x.feed(call % 2), call);
        }
        BitPlanes told = new BitPlanes(16, 16, 0, 0);
        for (int call = 1; call <= 508; call++) {
            told.put(call % 16, call / 16 % 16, call);
        }
        Due.answer("encode() as call 509", told.encode(), 25);
        Due.answer("pass as call 510", told.pass(MOST) > 0, true);
        Due.answer("decode as call 511", told.decode(9, MOST), 25);
        Due.answer("at as call 512", told.at(508 % 16, 508 / 16 % 16), 508);
    }

    private static final String NEAREST = "(other numbers count as the nearest of these)";

    private static void nearestWidth() {
        Due.by("The block has a WIDTH and a HEIGHT, each 1 .. 16 .. " + NEAREST);
        int[][] due = {{LEAST, 1}, {-16, 1}, {-1, 1}, {0, 1}, {1, 1}, {2, 2}, {15, 15}, {16, 16},
            {17, 16}, {32, 16}, {MOST, 16}};
        for (int[] one : due) {
            BitPlanes x = new BitPlanes(one[0], 3, 0, 0);
            Due.answer("told(0) of width " + one[0], x.told(0), one[1]);
            Due.answer("told(1) of width " + one[0], x.told(1), 3);
            Due.answer("paint(1, 0) of width " + one[0], x.paint(1, 0), 3 * one[1]);
            Due.answer("the last column", x.put(one[1] - 1, 2, 0), 1);
            Due.exception("the next column", IndexOutOfBoundsException.class, () -> x.put(one[1], 2, 0));
        }
    }

    private static void nearestHeight() {
        Due.by("The block has a WIDTH and a HEIGHT, each 1 .. 16 .. " + NEAREST);
        int[][] due = {{LEAST, 1}, {-16, 1}, {-1, 1}, {0, 1}, {1, 1}, {2, 2}, {15, 15}, {16, 16},
            {17, 16}, {32, 16}, {MOST, 16}};
        for (int[] one : due) {
            BitPlanes x = new BitPlanes(3, one[0], 0, 0);
            Due.answer("told(0) of height " + one[0], x.told(0), 3);
            Due.answer("told(1) of height " + one[0], x.told(1), one[1]);
            Due.answer("paint(1, 0) of height " + one[0], x.paint(1, 0), 3 * one[1]);
            Due.answer("the last row", x.put(2, one[1] - 1, 0), 1);
            Due.exception("the next row", IndexOutOfBoundsException.class, () -> x.put(2, one[1], 0));
        }
    }

    private static void nearestStyle() {
        Due.by("a STYLE 0 .. 31 .. " + NEAREST);
        int[][] due = {{LEAST, 0}, {-32, 0}, {-1, 0}, {0, 0}, {1, 1}, {30, 30}, {31, 31}, {32, 31},
            {64, 31}, {MOST, 31}};
        for (int[] one : due) {
            BitPlanes x = Blocks.told(1, one[0], 0, 1);
            Due.answer("told(2) of style " + one[0], x.told(2), one[1]);
            boolean marked = one[1] >= MARKS;
            Blocks.line(x, marked ? "1/0 0/9 1/18 0/18 1/18 0/18" : "1/0 0/9");
        }
    }

    private static void nearestBand() {
        Due.by("a BAND 0 .. 2 " + NEAREST);
        int[][] due = {{LEAST, 0}, {-1, 0}, {0, 0}, {1, 1}, {2, 2}, {3, 2}, {4, 2}, {MOST, 2}};
        String[] besideOne = {"0/5", "0/3", "0/1"};
        for (int[] one : due) {
            BitPlanes x = Blocks.told(2, 0, one[0], 1, 0);
            Due.answer("told(3) of band " + one[0], x.told(3), one[1]);
            Blocks.line(x, "1/0 0/9 " + besideOne[one[1]]);
        }
    }

    private static void samplesAtTheirEdges() {
        Due.by("SAMPLES are -32767 .. 32767, at first 0.");
        BitPlanes x = new BitPlanes(2, 2, 0, 0);
        Blocks.samples(x, "0 0 0 0");
        Due.answer("put(0, 0, 32767)", x.put(0, 0, 32767), 0);
        Due.answer("put(1, 1, -32767)", x.put(1, 1, -32767), 0);
        Blocks.samples(x, "32767 0 0 -32767");
        x.encode();
        x.pass(MOST);
        Due.answer("decode(15, 43)", x.decode(15, 43), 43);
        Blocks.read(x, "32767/0 0/0 0/0 -32767/0");
    }

    private static void samplesBeyondTheirEdges() {
        Due.by("SAMPLES are -32767 .. 32767, at first 0.");
        int[] others = {32768, -32768, 65535, 65536, LEAST, MOST};
        for (int other : others) {
            BitPlanes x = Blocks.of(2, 0, 0, 5, 6, 7, 8);
            Due.exception("put of " + other, IllegalArgumentException.class, () -> x.put(1, 0, other));
            Blocks.samples(x, "5 6 7 8");
        }
    }

    private static void styleOfTwo() {
        Due.by("2 (which changes nothing here)");
        for (int style = 0; style < 32; style++) {
            BitPlanes with = Blocks.told(2, style | 2, 0, 17, -1, 0, 3, 0, -30, 1, 0, 0, 8);
            BitPlanes without = Blocks.told(2, style & ~2, 0, 17, -1, 0, 3, 0, -30, 1, 0, 0, 8);
            Due.outcome("the bits of style " + style, Blocks.line(with), Blocks.line(without));
            for (int pass = 0; pass < 13; pass++) {
                Due.answer("terminated(" + pass + ")", with.terminated(pass), without.terminated(pass));
            }
        }
    }

    private static void noPlanes() {
        Due.by("(0 planes, if all are 0)");
        for (int style = 0; style < 32; style++) {
            BitPlanes x = new BitPlanes(3, 5, style, style % 3);
            Due.answer("told(4)", x.told(4), 0);
            Due.answer("encode()", x.encode(), 0);
            Due.answer("bits()", x.bits(), 0);
            Due.answer("told(5)", x.told(5), 0);
            Due.answer("pass(1)", x.pass(1), 0);
            Due.exception("terminated(0)", IndexOutOfBoundsException.class,
                () -> x.terminated(0) ? 1 : 0);
        }
    }

    private static void highestPlaneThatAnyHas() {
        Due.by("PLANES are bits of the samples' sizes (without sign), from the highest one that any has");
        for (int plane = 0; plane < 15; plane++) {
            int least = 1 << plane;
            int most = 2 * least - 1;
            int[] tries = {least, most, -least, -most};
            for (int one : tries) {
                BitPlanes x = new BitPlanes(3, 3, 0, 0);
                x.put(2, 2, one);
                Due.answer("told(4) of " + one, x.told(4), plane + 1);
                x.put(0, 0, one > 0 ? -1 : 1);
                Due.answer("told(4) of " + one + " and a one", x.told(4), plane + 1);
            }
        }
        Due.answer("told(4) of 4 and 3", Blocks.of(1, 0, 0, 4, 3).told(4), 3);
        Due.answer("told(4) of 2 and 1", Blocks.of(1, 0, 0, -2, -1).told(4), 2);
    }

    private static void lowestPlane() {
        Due.by("down to the lowest one");
        // However high the samples are, the planes go down to the ones.
        Blocks.line(Blocks.told(1, 0, 0, 4), "1/0 0/9 | - | 0/14 | - | - | 0/16 | -");
        Blocks.line(Blocks.told(1, 0, 0, 5), "1/0 0/9 | - | 0/14 | - | - | 1/16 | -");
    }

    private static void passesOfPlanes() {
        Due.by("in the highest plane a CLEANUP; in each further one a FINDING, a REFINING and a CLEANUP");
        for (int planes = 1; planes <= 15; planes++) {
            BitPlanes x = Blocks.of(1, 0, 0, -(1 << planes - 1));
            Due.answer("encode() of " + planes + " planes", x.encode(), 1 + 3 * (planes - 1));
            Due.answer("kind(0)", x.kind(0), 2);
            Due.answer("kind of the last pass", x.kind(x.told(5) - 1), 2);
        }
        BitPlanes two = Blocks.told(1, 0, 0, 2);
        Due.answer("kind(1)", two.kind(1), 0);
        Due.answer("kind(2)", two.kind(2), 1);
        Due.answer("kind(3)", two.kind(3), 2);
        Due.exception("kind(4)", IndexOutOfBoundsException.class, () -> two.kind(4));
    }

    /** Where a single one is told tells which columns and rows come before it. */
    private static void stripesOfAllHeights() {
        Due.by("Each goes stripe by stripe (four rows, the last one perhaps less), in each column by "
            + "column, in each from above.");
        for (int height = 1; height <= 16; height++) {
            for (int i = 0; i < 3 * height; i++) {
                BitPlanes x = new BitPlanes(3, height, 0, 0);
                x.put(i % 3, i / 3, 1);
                x.encode();
                oneIsTold(x, height, i % 3, i / 3);
            }
        }
    }

    private static void oneIsTold(BitPlanes x, int height, int column, int row) {
        int stripesBefore = row / 4;
        int rows = Math.min(4, height - 4 * stripesBefore);
        boolean asOne = rows == 4;
        int before = 3 * stripesBefore + (asOne ? column : column * rows + row % 4);
        String name = "the one at " + column + ", " + row + " of " + height + ": bit ";
        for (int i = 0; i < before; i++) {
            Due.answer(name + i, x.bit(i, 0), 0);
        }
        Due.answer(name + before, x.bit(before, 0), 1);
        Due.answer(name + before + "'s context", x.bit(before, 1), asOne ? 17 : 0);
    }

    private static void lastStripeOfLess() {
        Due.by("stripe by stripe (four rows, the last one perhaps less)");
        Blocks.line(Blocks.told(1, 0, 0, 1), "1/0 0/9");
        Blocks.line(Blocks.told(1, 0, 0, 0, 1), "0/0 1/0 0/9");
        Blocks.line(Blocks.told(1, 0, 0, 0, 0, 1), "0/0 0/0 1/0 0/9");
        Blocks.line(Blocks.told(1, 0, 0, 0, 0, 0, 1), "1/17 1/18 1/18 0/9");
        Blocks.line(Blocks.told(1, 0, 0, 0, 0, 0, 0, 1), "0/17 1/0 0/9");
        Blocks.line(Blocks.told(1, 0, 0, 0, 0, 0, 0, 0, 0, 1), "0/17 0/0 0/0 1/0 0/9");
        Blocks.line(Blocks.told(1, 0, 0, 0, 0, 0, 0, 0, 0, 0, 1), "0/17 1/17 1/18 1/18 0/9");
        // In a stripe of one row the columns are single samples.
        Blocks.line(Blocks.told(3, 0, 0, 0, 1, 0), "0/0 1/0 0/9 0/5");
    }

    private static void foundByABitOfOne() {
        Due.by("A sample is FOUND when a bit 1 of it was told");
        // A bit 0 of the right one makes nobody find it: the third has context 0 still.
        Blocks.line(Blocks.told(3, 0, 0, 2, 0, 0), "1/0 0/9 0/5 0/0 | 0/5 | 0/14 | 0/0");
        Blocks.line(Blocks.told(3, 0, 0, 2, 1, 0), "1/0 0/9 0/5 0/0 | 1/5 0/12 0/5 | 0/15 | -");
    }

    private static final String OUTSIDE =
        "its neighbours are the eight round it, those outside of the block are not found";

    private static void neighboursBeyondTheSides() {
        Due.by(OUTSIDE);
        // The last of a row is none to the first of the next row, nor the other way round.
        Blocks.line(Blocks.told(3, 0, 0, 0, 0, 2, 0, 0, 0),
            "0/0 0/0 0/0 0/0 1/0 0/9 0/3 | 0/5 0/1 0/3 | 0/14 | 0/0 0/0");
        Blocks.line(Blocks.told(3, 0, 0, 0, 0, 0, 2, 0, 0),
            "0/0 1/0 0/9 0/1 0/5 0/0 0/0 | 0/3 0/1 0/5 | 0/14 | 0/0 0/0");
    }

    private static void neighboursAboveAndBelowTheBlock() {
        Due.by(OUTSIDE);
        // Nor is the lowest of a column one to the highest, in it or in the next one.
        Blocks.line(Blocks.told(2, 0, 0, 0, 0, 0, 0, 2, 0),
            "0/0 0/0 1/0 0/9 0/0 0/1 0/5 | 0/3 0/1 0/5 | 0/14 | 0/0 0/0");
        Blocks.line(Blocks.told(2, 0, 0, 0, 2, 0, 0, 0, 0),
            "0/0 0/0 0/0 1/0 0/9 0/3 0/0 | 0/5 0/1 0/3 | 0/14 | 0/0 0/0");
    }

    private static void signsBeyondTheSides() {
        Due.by(OUTSIDE);
        Blocks.line(Blocks.told(2, 0, 0, 0, -2, 1, 0),
            "0/0 0/0 1/0 1/9 0/3 | 0/5 1/1 0/9 0/7 | 0/15 | -");
        Blocks.line(Blocks.told(2, 0, 0, 0, 1, -2, 0),
            "0/0 1/0 1/9 0/1 0/5 | 0/3 1/1 0/9 0/7 | 0/15 | -");
    }

    private static void noNeighbourAtAll() {
        Due.by(OUTSIDE);
        for (int band = 0; band < 3; band++) {
            Blocks.line(Blocks.told(1, CAUSAL, band, -3), "1/0 1/9 | - | 1/14 | -");
        }
    }

    private static final String BELOW = "with CAUSAL those in the stripe below are not, either";

    private static void causalBelow() {
        Due.by(BELOW);
        Blocks.line(Blocks.told(1, 0, 0, 0, 0, 0, 0, 2),
            "0/17 1/0 0/9 | 0/3 | 0/14 | 0/0 0/0 0/0");
        Blocks.line(Blocks.told(1, CAUSAL, 0, 0, 0, 0, 0, 2),
            "0/17 1/0 0/9 | - | 0/14 | 0/17");
    }

    private static void causalCornerBelow() {
        Due.by(BELOW);
        Blocks.line(Blocks.told(2, 0, 0, 0, 0, 0, 0, 0, 0, 0, 0, 2, 0),
            "0/17 0/17 1/0 0/9 0/5 | 0/3 0/1 0/5 | 0/14 | 0/0 0/0 0/0 0/0 0/0 0/0");
        Blocks.line(Blocks.told(2, CAUSAL, 0, 0, 0, 0, 0, 0, 0, 0, 0, 2, 0),
            "0/17 0/17 1/0 0/9 0/5 | 0/5 | 0/14 | 0/17 0/17");
        Blocks.line(Blocks.told(2, CAUSAL, 0, 0, 0, 0, 0, 0, 0, 0, 0, 0, 2),
            "0/17 0/17 0/0 1/0 0/9 | 0/5 | 0/14 | 0/17 0/17");
    }

    private static void causalAbove() {
        Due.by(BELOW);
        // The stripe above is seen, with its corners.
        for (int style = 0; style <= CAUSAL; style += CAUSAL) {
            Blocks.line(Blocks.told(2, style, 0, 0, 0, 0, 0, 0, 0, 2, 0, 0, 0),
                "1/17 1/18 1/18 0/9 0/0 0/0 0/1 0/5 0/3 0/1"
                    + " | 0/3 0/1 0/5 0/3 0/1 | 0/14 | 0/0 0/0 0/0 0/0");
        }
    }

    private static void causalSignBelow() {
        Due.by(BELOW);
        Blocks.line(Blocks.told(1, 0, 0, 0, 0, 0, 1, -2),
            "0/17 1/0 1/9 | 1/3 1/10 | 0/15 | 0/0 0/0 0/3");
        Blocks.line(Blocks.told(1, CAUSAL, 0, 0, 0, 0, 1, -2),
            "0/17 1/0 1/9 | - | 0/14 | 1/17 1/18 1/18 0/9");
        // Told beside another one, while the one below is found.
        int[] samples = {0, 0, 0, 0, 0, 0, 1, 2, -2, 0};
        String first = "0/17 1/17 1/18 1/18 0/9 1/1 1/9 0/7";
        String last = "0/15 0/15 | 0/0 0/0 0/0 0/0";
        Blocks.line(Blocks.told(2, 0, 0, samples), first + " | 0/1 1/7 0/11 0/3 0/7 | " + last);
        Blocks.line(Blocks.told(2, CAUSAL, 0, samples), first + " | 0/1 1/5 0/12 0/3 0/7 | " + last);
    }

    private static void causalRefining() {
        Due.by(BELOW);
        Blocks.line(Blocks.told(1, 0, 0, 0, 0, 0, 2, 2),
            "1/17 1/18 1/18 0/9 1/3 0/10 | 0/3 | 0/15 0/15 | 0/0 0/0");
        Blocks.line(Blocks.told(1, CAUSAL, 0, 0, 0, 0, 2, 2),
            "1/17 1/18 1/18 0/9 1/3 0/10 | 0/3 | 0/14 0/15 | 0/0 0/0");
    }

    private static void causalInsideOfAStripe() {
        Due.by(BELOW);
        // The row below is seen as long as it is in the same stripe, in the last one too.
        Blocks.line(Blocks.told(1, CAUSAL, 0, 0, 0, 2, 0),
            "1/17 1/18 0/18 0/9 0/3 | 0/3 0/3 | 0/14 | 0/0");
        Blocks.line(Blocks.told(1, CAUSAL, 0, 0, 0, 0, 0, 0, 2),
            "0/17 0/0 1/0 0/9 | 0/3 | 0/14 | 0/17");
        Blocks.line(Blocks.told(1, CAUSAL + BYPASS, 0, 0, 2), "0/0 1/0 0/9 | 0/3 | 0/14 | -");
    }
}
