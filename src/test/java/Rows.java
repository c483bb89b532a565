/** What several tests need to bring an object into a known state. */
final class Rows {
    /** Column numbers outside 0..7, those next to the edges and the most extreme ones. */
    static final int[] WRONG_COLUMNS = {
        -1, 8, -2, 9, 15, 16, -8, 255, 256, 1 << 16, -(1 << 16), Integer.MIN_VALUE, Integer.MIN_VALUE + 1,
        Integer.MIN_VALUE + 7, Integer.MAX_VALUE, Integer.MAX_VALUE - 7
    };

    /** Values about every edge of a byte and of an int. */
    static final int[] VALUES = {
        0, 1, 2, 127, 128, 129, 254, 255, 256, 257, 300, 511, 512, -1, -2, -127, -128, -129, -255, -256, -257,
        65535, 65536, Integer.MAX_VALUE, Integer.MAX_VALUE - 1, Integer.MIN_VALUE, Integer.MIN_VALUE + 1
    };

    private Rows() {
    }

    /** Lays prev and cur; filter stores the raw value, so the predictor has no part in it. */
    static void lay(PaethFilter filter, int[] cells) {
        for (int x = 0; x < 8; x++) {
            filter.filter(x, cells[8 + x]);
        }
        filter.nextRow();
        for (int x = 0; x < 8; x++) {
            filter.filter(x, cells[x]);
        }
    }

    /** Sixteen cells, all different, on both sides of 128, the current row first. */
    static int[] mixed() {
        return new int[] {200, 3, 128, 255, 17, 127, 90, 254, 1, 199, 130, 64, 253, 33, 180, 76};
    }

    /** The predictor of the document, told over the sixteen cells. */
    static int predictor(int[] cells, int x) {
        int a = x > 0 ? cells[x - 1] : 0;
        int b = cells[8 + x];
        int c = x > 0 ? cells[8 + x - 1] : 0;
        return predictor(a, b, c);
    }

    static int predictor(int a, int b, int c) {
        int pa = Math.abs(b - c);
        int pb = Math.abs(a - c);
        int pc = Math.abs(a + b - 2 * c);
        if (pa <= pb && pa <= pc) {
            return a;
        }
        return pb <= pc ? b : c;
    }
}
