/** Promises 7 to 10: length, distortion, kind and terminated. */
public final class PassesTest {
    private static final int BYPASS = 1;
    private static final int TERMINATE = 4;

    public static void main(String[] args) {
        lengths();
        distortions();
        largestDistortion();
        kinds();
        terminatedPasses();
        ofTheLatestEncode();
        passesThatAreNotThere();
        Due.end();
    }

    private static BitPlanes single(int style, int value) {
        BitPlanes x = new BitPlanes(1, 1, style, 0);
        x.put(0, 0, value);
        x.encode();
        return x;
    }

    private static void lengths() {
        BitPlanes x = single(0, -5);
        int[] due = {2, 2, 3, 3, 3, 4, 4};
        for (int p = 0; p < due.length; p++) {
            Due.answer("length(" + p + ")", x.length(p), due[p]);
        }
        BitPlanes marked = single(16, 3);
        int[] dueMarked = {6, 6, 7, 11};
        for (int p = 0; p < dueMarked.length; p++) {
            Due.answer("length(" + p + ") with marks", marked.length(p), dueMarked[p]);
        }
    }

    private static void distortions() {
        BitPlanes x = new BitPlanes(4, 1, 0, 0);
        x.put(0, 0, -7);
        x.put(1, 0, 3);
        x.put(3, 0, -1);
        x.encode();
        // Found in turn: -7 (pass 0), 3 (pass 1), -1 (in cleanup, as 0 is between).
        int[] due = {9 + 9 + 1, 9 + 1 + 1, 1 + 1 + 1, 3, 3, 1, 0};
        for (int p = 0; p < due.length; p++) {
            Due.answer("distortion(" + p + ")", x.distortion(p), due[p]);
        }
        x.paint(0, 0);
        Due.answer("distortion(0) behind paint", x.distortion(0), due[0]);
    }

    private static void largestDistortion() {
        BitPlanes x = new BitPlanes(16, 16, 0, 0);
        x.paint(-32767, 0);
        x.encode();
        Due.answer("distortion(0) of the largest", x.distortion(0), 256L * 16383 * 16383);
        Due.answer("distortion(42) of the largest", x.distortion(42), 0);
    }

    private static void kinds() {
        BitPlanes x = single(0, 32767);
        Due.answer("kind(0)", x.kind(0), 2);
        for (int p = 1; p < 43; p += 3) {
            Due.answer("kind(" + p + ")", x.kind(p), 0);
            Due.answer("kind(" + (p + 1) + ")", x.kind(p + 1), 1);
            Due.answer("kind(" + (p + 2) + ")", x.kind(p + 2), 2);
        }
    }

    private static void terminatedPasses() {
        terminated(single(0, 32), "0000000000000001");
        terminated(single(TERMINATE, 32), "1111111111111111");
        terminated(single(BYPASS, 32), "0000000001011011");
        terminated(single(BYPASS + TERMINATE, 32), "1111111111111111");
        terminated(single(BYPASS, 16), "0000000001011");
        terminated(single(BYPASS, 8), "0000000001");
        terminated(single(BYPASS, 4), "0000001");
        terminated(single(31 - BYPASS - TERMINATE, 32), "0000000000000001");
        terminated(single(0, 1), "1");
    }

    private static void terminated(BitPlanes x, String due) {
        Due.answer("passes", x.told(5), due.length());
        for (int p = 0; p < due.length(); p++) {
            Due.answer("terminated(" + p + ") of " + due, x.terminated(p), due.charAt(p) == '1');
        }
    }

    private static void ofTheLatestEncode() {
        BitPlanes x = single(0, 2);
        x.put(0, 0, 4);
        Due.answer("terminated(3) before it is told anew", x.terminated(3), true);
        Due.exception("kind(4) before it is told anew", IndexOutOfBoundsException.class, () -> x.kind(4));
        x.encode();
        Due.answer("terminated(3) told anew", x.terminated(3), false);
        Due.answer("terminated(6) told anew", x.terminated(6), true);
        Due.answer("kind(4) told anew", x.kind(4), 0);
        x.put(0, 0, -1);
        x.encode();
        Due.answer("terminated(0) told anew", x.terminated(0), true);
        refused(x, 1);
    }

    private static void passesThatAreNotThere() {
        BitPlanes fresh = new BitPlanes(4, 4, 31, 0);
        refused(fresh, 0);
        fresh.put(0, 0, 9);
        refused(fresh, 0);
        BitPlanes x = single(0, 5);
        int[] others = {-1, 7, 8, 43, Integer.MIN_VALUE, Integer.MAX_VALUE};
        for (int p : others) {
            refused(x, p);
        }
        BitPlanes largest = single(4, 32767);
        refused(largest, 43);
        refused(largest, -1);
    }

    private static void refused(BitPlanes x, int p) {
        Class<IndexOutOfBoundsException> due = IndexOutOfBoundsException.class;
        Due.exception("length(" + p + ")", due, () -> x.length(p));
        Due.exception("distortion(" + p + ")", due, () -> x.distortion(p));
        Due.exception("kind(" + p + ")", due, () -> x.kind(p));
        Due.exception("terminated(" + p + ")", due, () -> x.terminated(p) ? 1 : 0);
    }
}
