/** Promises 1 to 3: a new object, put and paint. */
public final class SamplesTest {
    public static void main(String[] args) {
        newObjects();
        newObjectsOfOtherNumbers();
        newSamples();
        puts();
        putsThatAreRefused();
        paints();
        paintsThatRunOver();
        Due.end();
    }

    private static void newObjects() {
        for (int width = 1; width <= 16; width++) {
            for (int height = 1; height <= 16; height++) {
                form(new BitPlanes(width, height, width * 2 - 1, height % 3),
                    width, height, width * 2 - 1, height % 3);
            }
        }
        for (int style = 0; style <= 31; style++) {
            for (int band = 0; band <= 2; band++) {
                form(new BitPlanes(3, 2, style, band), 3, 2, style, band);
            }
        }
    }

    private static void newObjectsOfOtherNumbers() {
        form(new BitPlanes(0, 0, -1, -1), 1, 1, 0, 0);
        form(new BitPlanes(17, 17, 32, 3), 16, 16, 31, 2);
        form(new BitPlanes(Integer.MIN_VALUE, Integer.MAX_VALUE, 31, 2), 1, 16, 31, 2);
        form(new BitPlanes(Integer.MAX_VALUE, Integer.MIN_VALUE, 0, 0), 16, 1, 0, 0);
        form(new BitPlanes(4, 5, Integer.MIN_VALUE, Integer.MAX_VALUE), 4, 5, 0, 2);
        form(new BitPlanes(4, 5, Integer.MAX_VALUE, Integer.MIN_VALUE), 4, 5, 31, 0);
    }

    private static void form(BitPlanes x, int width, int height, int style, int band) {
        Due.answer("told(0) of a new object", x.told(0), width);
        Due.answer("told(1) of a new object", x.told(1), height);
        Due.answer("told(2) of a new object", x.told(2), style);
        Due.answer("told(3) of a new object", x.told(3), band);
    }

    private static void newSamples() {
        BitPlanes x = new BitPlanes(16, 16, 5, 1);
        Due.answer("told(4) of a new object", x.told(4), 0);
        for (int y = 0; y < 16; y++) {
            for (int column = 0; column < 16; column++) {
                Due.answer("a first put", x.put(column, y, 1), 0);
            }
        }
    }

    private static void puts() {
        BitPlanes x = new BitPlanes(3, 5, 0, 0);
        Due.answer("put(2, 4, 7)", x.put(2, 4, 7), 0);
        Due.answer("put(2, 4, -32767)", x.put(2, 4, -32767), 7);
        Due.answer("put(2, 4, 32767)", x.put(2, 4, 32767), -32767);
        Due.answer("put(2, 4, 0)", x.put(2, 4, 0), 32767);
        for (int y = 0; y < 5; y++) {
            for (int column = 0; column < 3; column++) {
                x.put(column, y, 10 * y + column - 20);
            }
        }
        for (int y = 0; y < 5; y++) {
            for (int column = 0; column < 3; column++) {
                Due.answer("put over another", x.put(column, y, 0), 10 * y + column - 20);
            }
        }
    }

    private static void putsThatAreRefused() {
        BitPlanes x = new BitPlanes(3, 5, 0, 0);
        x.paint(9, 0);
        int[][] places = {{-1, 0}, {3, 0}, {0, -1}, {0, 5}, {4, 2}, {2, 6},
            {Integer.MIN_VALUE, 0}, {Integer.MAX_VALUE, 0},
            {0, Integer.MIN_VALUE}, {0, Integer.MAX_VALUE}};
        for (int[] place : places) {
            Due.exception("put outside", IndexOutOfBoundsException.class,
                () -> x.put(place[0], place[1], 1));
            Due.exception("put outside of a wrong value", IndexOutOfBoundsException.class,
                () -> x.put(place[0], place[1], 32768));
        }
        int[] values = {32768, -32768, Integer.MAX_VALUE, Integer.MIN_VALUE};
        for (int value : values) {
            Due.exception("put of " + value, IllegalArgumentException.class,
                () -> x.put(1, 1, value));
        }
        Due.answer("paint(9, 0) behind refused puts", x.paint(9, 0), 0);
    }

    private static void paints() {
        BitPlanes x = new BitPlanes(3, 2, 0, 0);
        Due.answer("paint(-2, 1)", x.paint(-2, 1), 5);
        Due.answer("paint(-2, 1) again", x.paint(-2, 1), 0);
        values(x, new int[] {-2, -1, 0, 1, 2, 3});
        Due.answer("paint(5, 0)", x.paint(5, 0), 6);
        Due.answer("paint(5, -5)", x.paint(5, -5), 5);
        values(x, new int[] {5, 0, -5, -10, -15, -20});
        Due.answer("paint(32760, 4)", x.paint(32760, 4), 6);
        values(x, new int[] {32760, 32764, 32767, 32767, 32767, 32767});
        // The values go on from where they would be, not from where they were brought to.
        Due.answer("paint(32775, -4)", x.paint(32775, -4), 5);
        values(x, new int[] {32767, 32767, 32767, 32763, 32759, 32755});
        Due.answer("paint(-32760, -4)", x.paint(-32760, -4), 6);
        values(x, new int[] {-32760, -32764, -32767, -32767, -32767, -32767});
    }

    private static void paintsThatRunOver() {
        BitPlanes x = new BitPlanes(2, 3, 0, 0);
        x.paint(Integer.MAX_VALUE, 1);
        values(x, new int[] {32767, -32767, -32767, -32767, -32767, -32767});
        x.paint(Integer.MIN_VALUE, -1);
        values(x, new int[] {-32767, 32767, 32767, 32767, 32767, 32767});
        x.paint(3, Integer.MIN_VALUE);
        values(x, new int[] {3, -32767, 3, -32767, 3, -32767});
    }

    private static void values(BitPlanes x, int[] due) {
        int width = x.told(0);
        for (int i = 0; i < due.length; i++) {
            int got = x.put(i % width, i / width, 0);
            x.put(i % width, i / width, got);
            Due.answer("sample " + i, got, due[i]);
        }
    }
}
