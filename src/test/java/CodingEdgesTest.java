/**
 * The edges that "Terms" names for findings, refinings, cleanups, contexts, signs, bypass and
 * termination: one test for each sentence, with its words. Each object has 512 calls at most.
 */
public final class CodingEdgesTest {
    private static final int BYPASS = 1;
    private static final int TERMINATE = 4;
    private static final int CAUSAL = 8;
    private static final int MARKS = 16;

    public static void main(String[] args) {
        findingOfContextsNotZero();
        findingGoesOnWithWhatItFinds();
        seenInThisPlaneAlone();
        refiningOfPlanesBefore();
        refinedForTheFirstTime();
        refinedLater();
        cleanupOfWhatIsLeft();
        cleanupWhateverTheContext();
        columnsOfLessThanFour();
        columnsWithOneFound();
        columnsWithOneSeen();
        columnsWithAContextAtTheirTop();
        columnsWithAContextAtTheirBottom();
        columnsOfZeros();
        placesInColumns();
        samplesBelowThePlace();
        marksInCleanupsAlone();
        marksOfNoPlanes();
        contextsAtTheirSteps();
        signsBroughtToOne();
        signsTurned();
        signsOfCorners();
        bypassBeginsWithPass10();
        bypassOfFewPasses();
        bypassLeavesCleanups();
        bypassSigns();
        terminatedLast();
        terminatedEach();
        terminatedWithBypass();
        Due.end();
    }

    private static void findingOfContextsNotZero() {
        Due.by("FINDING: each sample that is not found, and whose context is not 0");
        Blocks.line(Blocks.told(4, 0, 0, 2, 0, 0, 0),
            "1/0 0/9 0/5 0/0 0/0 | 0/5 | 0/14 | 0/0 0/0");
    }

    private static void findingGoesOnWithWhatItFinds() {
        Due.by("A sample is FOUND when a bit 1 of it was told");
        // What is found beside comes in the same pass behind it, but not before it.
        Blocks.line(Blocks.told(3, 0, 0, 2, 1, 1), "1/0 0/9 0/5 0/0 | 1/5 0/12 1/5 0/12 | 0/15 | -");
        Blocks.line(Blocks.told(3, 0, 0, 1, 1, 2), "0/0 0/0 1/0 0/9 | 1/5 0/12 | 0/15 | 1/5 0/12");
    }

    private static void seenInThisPlaneAlone() {
        Due.by("It is SEEN then in this plane.");
        Blocks.line(Blocks.told(2, 0, 0, 2, 0), "1/0 0/9 0/5 | 0/5 | 0/14 | -");
        Blocks.line(Blocks.told(2, 0, 0, 4, 0), "1/0 0/9 0/5 | 0/5 | 0/14 | - | 0/5 | 0/16 | -");
    }

    private static void refiningOfPlanesBefore() {
        Due.by("REFINING: each sample found in a plane before");
        Blocks.line(Blocks.told(2, 0, 0, 2, 1), "1/0 0/9 0/5 | 1/5 0/12 | 0/15 | -");
        // One was found by a finding, one by the cleanup behind it: both are refined then.
        Blocks.line(Blocks.told(3, 0, 0, 2, 3, 4),
            "0/0 0/0 1/0 0/9 | 1/5 0/12 | 0/15 | 1/5 0/12 | - | 0/15 1/15 0/16 | -");
    }

    private static void refinedForTheFirstTime() {
        Due.by("14, if it is refined for the first time and no neighbour is found; 15, if one is, "
            + "for the first time");
        Blocks.line(Blocks.told(1, 0, 0, 2), "1/0 0/9 | - | 0/14 | -");
        Blocks.line(Blocks.told(2, 0, 0, 3, 2), "1/0 0/9 1/5 0/12 | - | 1/15 0/15 | -");
        for (int corner = 0; corner < 4; corner++) {
            int[] samples = {0, 0, 0, 0, 3, 0, 0, 0, 0};
            samples[corner / 2 * 6 + corner % 2 * 2] = 2;
            String line = Blocks.line(Blocks.told(3, 0, 0, samples));
            boolean before = corner % 2 == 0;
            Due.answer("a corner: " + line, line.contains(before ? "| 0/15 1/15 |" : "| 1/15 0/15 |"), true);
        }
        // Two samples apart there is no neighbour.
        Blocks.line(Blocks.told(3, 0, 0, 3, 0, 2),
            "1/0 0/9 0/5 1/0 0/9 | 0/8 | 1/14 0/14 | -");
    }

    private static void refinedLater() {
        Due.by("16 later");
        Blocks.line(Blocks.told(1, 0, 0, 9),
            "1/0 0/9 | - | 0/14 | - | - | 0/16 | - | - | 1/16 | -");
        // A first neighbour, found after the first refining, does not make it a first one.
        Blocks.line(Blocks.told(2, 0, 0, 4, 1),
            "1/0 0/9 0/5 | 0/5 | 0/14 | - | 1/5 0/12 | 0/16 | -");
        Blocks.line(Blocks.told(2, 0, 0, 7, 6),
            "1/0 0/9 1/5 0/12 | - | 1/15 1/15 | - | - | 1/16 0/16 | -");
    }

    private static void cleanupOfWhatIsLeft() {
        Due.by("CLEANUP: each sample that is neither found nor seen in this plane");
        Blocks.line(Blocks.told(4, 0, 0, 0, 1, 0, 2),
            "0/0 0/0 0/0 1/0 0/9 | 0/5 | 0/14 | 0/0 1/0 0/9");
        Blocks.line(Blocks.told(2, 0, 0, 1, 1), "1/0 0/9 1/5 0/12");
    }

    private static void cleanupWhateverTheContext() {
        Due.by("as in finding, whatever its context");
        Blocks.line(Blocks.told(1, 0, 0, 0, 1, 0), "0/0 1/0 0/9 0/3");
        Blocks.line(Blocks.told(3, 0, 0, 1, 0, 1), "1/0 0/9 0/5 1/0 0/9");
    }

    private static final String FOUR_ROWS = "But where a column has four rows in the stripe, none of "
        + "them found or seen, and all with context 0";

    private static void columnsOfLessThanFour() {
        Due.by(FOUR_ROWS);
        Blocks.line(Blocks.told(2, 0, 0, 0, 0, 0, 0, 0, 1), "0/0 0/0 0/0 0/0 0/0 1/0 0/9");
        Blocks.line(Blocks.told(2, 0, 0, 0, 0, 0, 0, 0, 0, 0, 1), "0/17 1/17 1/18 1/18 0/9");
    }

    private static void columnsWithOneFound() {
        Due.by(FOUR_ROWS);
        Blocks.line(Blocks.told(1, 0, 0, 2, 0, 0, 0),
            "1/17 0/18 0/18 0/9 0/3 0/0 0/0 | 0/3 | 0/14 | 0/0 0/0");
        Blocks.line(Blocks.told(1, 0, 0, 0, 0, 0, 2),
            "1/17 1/18 1/18 0/9 | 0/3 | 0/14 | 0/0 0/0");
    }

    private static void columnsWithOneSeen() {
        Due.by(FOUR_ROWS);
        // The second stripe's top was seen: its column is not told as one, though it has zeros alone.
        Blocks.line(Blocks.told(1, 0, 0, 0, 0, 0, 2, 0, 0, 0, 0),
            "1/17 1/18 1/18 0/9 0/3 0/0 0/0 0/0 | 0/3 0/3 | 0/14 | 0/0 0/0 0/0 0/0 0/0");
        // Nothing of the third stripe is seen.
        Blocks.line(Blocks.told(1, 0, 0, 0, 0, 0, 2, 0, 0, 0, 0, 0, 0, 0, 0),
            "1/17 1/18 1/18 0/9 0/3 0/0 0/0 0/0 0/17 | 0/3 0/3 | 0/14"
                + " | 0/0 0/0 0/0 0/0 0/0 0/17");
    }

    private static void columnsWithAContextAtTheirTop() {
        Due.by(FOUR_ROWS);
        int[] samples = new int[24];
        samples[9] = 1;
        Blocks.line(Blocks.told(3, 0, 0, samples),
            "1/17 1/18 1/18 0/9 0/0 0/0 0/1 0/5 0/17 0/3 0/0 0/0 0/0 0/1 0/0 0/0 0/0 0/17");
    }

    private static void columnsWithAContextAtTheirBottom() {
        Due.by(FOUR_ROWS);
        // The left column's last row has a neighbour by the finding before, but was not seen there.
        int[] samples = {0, 0, 0, 0, 0, 0, 0, 0, 0, 0, 0, 0, 0, 1, 2};
        String first = "0/17 0/17 0/17 0/0 0/0 1/0 0/9";
        Blocks.line(Blocks.told(3, 0, 0, samples), first + " | 0/1 0/3 1/5 0/12 | 0/15"
            + " | 0/0 0/0 0/0 0/1 0/0 0/0 0/0 0/0 0/0 0/0 0/5");
        Blocks.line(Blocks.told(3, CAUSAL, 0, samples), first + " | 1/5 0/12 | 0/15"
            + " | 0/17 0/17 0/17 0/5");
    }

    private static void columnsOfZeros() {
        Due.by("first a bit with context 17, whether any of them is 1 in this plane; if not, that is "
            + "all of the column");
        Blocks.line(Blocks.told(2, 0, 0, 0, 1, 0, 0, 0, 0, 0, 0),
            "0/17 1/17 0/18 0/18 0/9 0/3 0/0 0/0");
        // Bits of lower planes do not make one of it.
        Blocks.line(Blocks.told(3, 0, 0, 1, 0, 2, 1, 0, 0, 1, 0, 0, 1, 0, 0),
            "0/17 0/17 1/17 0/18 0/18 0/9 0/3 0/0 0/0 | 0/5 0/1 0/3 | 0/14"
                + " | 1/17 0/18 0/18 0/9 1/3 0/10 1/3 0/10 1/3 0/10 0/6 0/6 0/0 0/0");
    }

    private static void placesInColumns() {
        Due.by("if so, the place of the first one from above (0 .. 3) in two bits, the higher first, "
            + "with context 18, then its sign");
        Blocks.line(Blocks.told(1, 0, 0, 1, 0, 0, 0), "1/17 0/18 0/18 0/9 0/3 0/0 0/0");
        Blocks.line(Blocks.told(1, 0, 0, 0, -1, 0, 0), "1/17 0/18 1/18 1/9 0/3 0/0");
        Blocks.line(Blocks.told(1, 0, 0, 0, 0, 1, 0), "1/17 1/18 0/18 0/9 0/3");
        Blocks.line(Blocks.told(1, 0, 0, 0, 0, 0, -1), "1/17 1/18 1/18 1/9");
    }

    private static void samplesBelowThePlace() {
        Due.by("and so on with those below it");
        Blocks.line(Blocks.told(1, 0, 0, 1, -1, 0, 1), "1/17 0/18 0/18 0/9 1/3 1/10 0/3 1/0 0/9");
        Blocks.line(Blocks.told(1, 0, 0, 1, 1, 1, 1), "1/17 0/18 0/18 0/9 1/3 0/10 1/3 0/10 1/3 0/10");
        Blocks.line(Blocks.told(1, 0, 0, 0, 0, -1, -1), "1/17 1/18 0/18 1/9 1/3 0/10");
    }

    private static void marksInCleanupsAlone() {
        Due.by("With MARKS, at the end four bits 1, 0, 1, 0 with context 18.");
        String marks = "1/18 0/18 1/18 0/18";
        Blocks.line(Blocks.told(1, MARKS, 0, 1), "1/0 0/9 " + marks);
        Blocks.line(Blocks.told(2, MARKS, 0, 2, 1),
            "1/0 0/9 0/5 " + marks + " | 1/5 0/12 | 0/15 | " + marks);
        Blocks.line(Blocks.told(1, MARKS, 0, 0, 0, 0, 1), "1/17 1/18 1/18 0/9 " + marks);
    }

    private static void marksOfNoPlanes() {
        Due.by("With MARKS, at the end four bits 1, 0, 1, 0 with context 18.");
        BitPlanes x = new BitPlanes(4, 4, MARKS, 0);
        Due.answer("encode() of zeros", x.encode(), 0);
        Due.answer("bits() of zeros", x.bits(), 0);
    }

    /** Where one found neighbour more makes another context; {band, h, v, d, context}. */
    private static void contextsAtTheirSteps() {
        Due.by("CONTEXT of a sample, by how many of its neighbours to the left and right (h), above "
            + "and below (v) and at the corners (d) are found");
        int[][] due = {
            {0, 2, 0, 0, 8}, {0, 2, 2, 4, 8}, {0, 1, 1, 0, 7}, {0, 1, 2, 4, 7}, {0, 1, 0, 1, 6},
            {0, 1, 0, 4, 6}, {0, 1, 0, 0, 5}, {0, 0, 2, 0, 4}, {0, 0, 2, 4, 4}, {0, 0, 1, 0, 3},
            {0, 0, 1, 4, 3}, {0, 0, 0, 2, 2}, {0, 0, 0, 4, 2}, {0, 0, 0, 1, 1},
            {1, 0, 2, 0, 8}, {1, 2, 2, 4, 8}, {1, 1, 1, 0, 7}, {1, 2, 1, 4, 7}, {1, 0, 1, 1, 6},
            {1, 0, 1, 4, 6}, {1, 0, 1, 0, 5}, {1, 2, 0, 0, 4}, {1, 2, 0, 4, 4}, {1, 1, 0, 0, 3},
            {1, 1, 0, 4, 3}, {1, 0, 0, 2, 2}, {1, 0, 0, 4, 2}, {1, 0, 0, 1, 1},
            {2, 0, 0, 3, 8}, {2, 2, 2, 4, 8}, {2, 0, 1, 2, 7}, {2, 2, 2, 2, 7}, {2, 0, 0, 2, 6},
            {2, 1, 1, 1, 5}, {2, 2, 2, 1, 5}, {2, 2, 0, 1, 5}, {2, 1, 0, 1, 4}, {2, 0, 1, 1, 4},
            {2, 0, 0, 1, 3}, {2, 1, 1, 0, 2}, {2, 2, 2, 0, 2}, {2, 0, 2, 0, 2}, {2, 1, 0, 0, 1},
            {2, 0, 1, 0, 1}};
        for (int[] one : due) {
            BitPlanes x = Blocks.told(3, 0, one[0],
                two(one[3] > 0), two(one[2] > 0), two(one[3] > 1),
                two(one[1] > 0), 1, two(one[1] > 1),
                two(one[3] > 2), two(one[2] > 1), two(one[3] > 3));
            String name = "band " + one[0] + ", h " + one[1] + ", v " + one[2] + ", d " + one[3];
            Due.answer(name, x.bit(firstOneBehind(x, x.length(0)), 1), one[4]);
        }
    }

    private static int two(boolean found) {
        return found ? 2 : 0;
    }

    private static int firstOneBehind(BitPlanes x, int from) {
        int i = from;
        while (x.bit(i, 0) == 0) {
            i++;
        }
        return i;
    }

    /** The middle's sign, as bit/context, with these neighbours found before. */
    private static void sign(int middle, int left, int right, int above, int below, String due) {
        BitPlanes x = Blocks.told(3, 0, 0, 0, 2 * above, 0, 2 * left, middle, 2 * right, 0, 2 * below, 0);
        int i = firstOneBehind(x, x.length(0)) + 1;
        Due.outcome("the sign of " + middle + " by " + left + ", " + right + ", " + above + ", " + below,
            x.bit(i, 0) + "/" + x.bit(i, 1), due);
    }

    private static void signsBroughtToOne() {
        Due.by("a is the sum of the signs (1, -1; 0 for not found) of the neighbours to the left and "
            + "right, brought to -1 .. 1; b likewise of those above and below.");
        sign(1, 1, 1, 0, 0, "0/12");
        sign(1, 1, 0, 0, 0, "0/12");
        sign(1, 1, -1, 1, 0, "0/10");
        sign(1, 0, 0, 1, 1, "0/10");
        sign(1, 1, 1, 1, 1, "0/13");
        sign(1, 1, 1, -1, -1, "0/11");
        sign(1, 1, 0, -1, 0, "0/11");
        sign(1, 1, -1, -1, 1, "0/9");
        sign(-1, -1, 1, 1, -1, "1/9");
    }

    private static void signsTurned() {
        Due.by("If a is below 0, or a is 0 and b below 0, both are taken with the other sign, and the "
            + "bit is turned. .. The bit is 1 for a sample below 0 (turned: above).");
        sign(1, -1, -1, 0, 0, "1/12");
        sign(-1, -1, 0, 0, 0, "0/12");
        sign(1, -1, 0, 1, 1, "1/11");
        sign(-1, 0, -1, 0, 1, "0/11");
        sign(1, -1, -1, -1, -1, "1/13");
        sign(-1, 0, 0, -1, 0, "0/10");
        sign(1, 0, 0, -1, -1, "1/10");
        sign(1, 1, -1, 0, -1, "1/10");
        sign(-1, 1, 0, -1, 0, "1/11");
        sign(-1, 1, 1, 1, 0, "1/13");
    }

    private static void signsOfCorners() {
        Due.by("of the neighbours to the left and right .. of those above and below");
        for (int corner = 0; corner < 4; corner++) {
            int[] samples = {0, 0, 0, 0, 1, 0, 0, 0, 0};
            samples[corner / 2 * 6 + corner % 2 * 2] = -2;
            BitPlanes x = Blocks.told(3, 0, 0, samples);
            int i = firstOneBehind(x, x.length(0)) + 1;
            Due.outcome("the sign by corner " + corner, x.bit(i, 0) + "/" + x.bit(i, 1), "0/9");
        }
    }

    private static final String FROM_10 = "BYPASS: in passes from 10 on, findings and refinings tell bits "
        + "as they are: their context is 19";

    private static void bypassBeginsWithPass10() {
        Due.by(FROM_10);
        String before = "1/0 0/9 0/5 | 0/5 | 0/14 | - | 0/5 | 0/16 | - | 0/5 | 0/16 | - | ";
        Blocks.line(Blocks.told(2, BYPASS, 0, 16, 0), before + "0/19 | 0/19 | -");
        Blocks.line(Blocks.told(2, 0, 0, 16, 0), before + "0/5 | 0/16 | -");
        Blocks.line(Blocks.told(2, 31 - BYPASS - MARKS, 0, 16, 0), before + "0/5 | 0/16 | -");
        Blocks.line(Blocks.told(2, BYPASS, 0, 32, 0), before + "0/19 | 0/19 | - | 0/19 | 0/19 | -");
        BitPlanes most = Blocks.told(1, BYPASS, 0, 32767);
        Due.answer("bits() of 15 planes", most.bits(), 16);
        for (int i = 2; i < 16; i++) {
            Due.answer("context of bit " + i, most.bit(i, 1), i == 2 ? 14 : i < 5 ? 16 : 19);
        }
    }

    private static void bypassOfFewPasses() {
        Due.by(FROM_10);
        // Four planes have the passes 0 to 9: none is told as it is.
        int[] samples = {15, -1, 0, 8, 3, -7, 0, 0, -2, 1};
        Due.outcome("the bits of four planes", Blocks.line(Blocks.told(2, BYPASS, 0, samples)),
            Blocks.line(Blocks.told(2, 0, 0, samples)));
    }

    private static void bypassLeavesCleanups() {
        Due.by(FROM_10);
        String marks = "1/18 0/18 1/18 0/18";
        Blocks.line(Blocks.told(1, BYPASS + MARKS, 0, 16), "1/0 0/9 " + marks + " | - | 0/14 | " + marks
            + " | - | 0/16 | " + marks + " | - | 0/16 | " + marks + " | - | 0/19 | " + marks);
        Blocks.line(Blocks.told(1, BYPASS + CAUSAL, 0, 0, 0, 0, 1, 16),
            "0/17 1/0 0/9 | - | 0/14 | 0/17 | - | 0/16 | 0/17 | - | 0/16 | 0/17 | - | 0/19"
                + " | 1/17 1/18 1/18 0/9");
    }

    private static void bypassSigns() {
        Due.by("signs are not turned");
        String before = "0/0 0/0 1/0 1/9 | 0/5 | 0/14 | 0/0 | 0/5 | 0/16 | 0/0 | 0/5 | 0/16 | 0/0 | ";
        Blocks.line(Blocks.told(3, BYPASS, 0, 1, -1, -16), before + "1/19 1/19 | 0/19 | 1/5 1/12");
        Blocks.line(Blocks.told(3, BYPASS, 0, 1, 1, -16), before + "1/19 0/19 | 0/19 | 1/5 0/12");
        Blocks.line(Blocks.told(3, 0, 0, 1, -1, -16), before + "1/5 0/12 | 0/16 | 1/5 1/12");
        Blocks.line(Blocks.told(3, 0, 0, 1, 1, -16), before + "1/5 1/12 | 0/16 | 1/5 0/12");
    }

    private static void terminated(BitPlanes x, String due) {
        StringBuilder got = new StringBuilder();
        for (int pass = 0; pass < x.told(5); pass++) {
            got.append(x.terminated(pass) ? '1' : '0');
        }
        Due.outcome("terminated passes", got.toString(), due);
    }

    private static void terminatedLast() {
        Due.by("A pass is TERMINATED: the last one");
        int withoutBoth = 31 - BYPASS - TERMINATE;
        for (int style = 0; style <= withoutBoth; style += withoutBoth) {
            terminated(Blocks.told(1, style, 0, 1), "1");
            terminated(Blocks.told(1, style, 0, 2), "0001");
            terminated(Blocks.told(1, style, 0, -16384), "0".repeat(42) + "1");
        }
        terminated(Blocks.told(1, BYPASS, 0, 1), "1");
        terminated(Blocks.told(1, BYPASS, 0, 4), "0000001");
    }

    private static void terminatedEach() {
        Due.by("with TERMINATE each");
        terminated(Blocks.told(1, TERMINATE, 0, 1), "1");
        terminated(Blocks.told(1, TERMINATE, 0, 16384), "1".repeat(43));
        terminated(Blocks.told(1, TERMINATE + BYPASS, 0, 16384), "1".repeat(43));
    }

    private static void terminatedWithBypass() {
        Due.by("with BYPASS from pass 9 on cleanups and refinings");
        terminated(Blocks.told(1, BYPASS, 0, 8), "0000000001");
        terminated(Blocks.told(1, BYPASS, 0, 16), "0000000001011");
        terminated(Blocks.told(1, 31 - TERMINATE, 0, 16384), "000000000" + "1" + "011".repeat(11));
    }
}
