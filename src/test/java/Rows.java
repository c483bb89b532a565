import java.util.Arrays;
import java.util.stream.IntStream;

/** What several tests need to bring an object into a known state. */
final class Rows {
    /** Values about every edge of a byte and of an int. */
    static final int[] VALUES = {
        0, 1, 2, 127, 128, 129, 254, 255, 256, 257, 300, 511, 512, -1, -2, -127, -128, -129, -255, -256, -257,
        65535, 65536, Integer.MAX_VALUE, Integer.MAX_VALUE - 1, Integer.MIN_VALUE, Integer.MIN_VALUE + 1
    };

    private Rows() {
    }

    /** Numbers outside 0..last: all those near, and those that a narrower number would take for a right one. */
    static int[] outside(int last) {
        IntStream near = IntStream.rangeClosed(-300, 300);
        IntStream far = IntStream.range(8, 32).flatMap(
            bit -> IntStream.rangeClosed(0, last).flatMap(i -> IntStream.of((1 << bit) + i, (1 << bit) - 1 - i)));
        return IntStream.concat(near, far).filter(i -> i < 0 || i > last).distinct().toArray();
    }

    /** The states in which a refused call is tried: every cell empty, every cell full, all different. */
    static int[][] states() {
        return new int[][] {new int[16], full(), mixed()};
    }

    static PaethFilter laid(int[] cells) {
        PaethFilter filter = new PaethFilter();
        lay(filter, cells);
        return filter;
    }

    static int[] full() {
        int[] cells = new int[16];
        Arrays.fill(cells, 255);
        return cells;
    }

    /** An object whose first column has the predictor p: there a = c = 0, so the cell above is chosen. */
    static PaethFilter withFirstPredictor(int p) {
        PaethFilter filter = new PaethFilter();
        filter.filter(0, p);
        filter.nextRow();
        return filter;
    }

    /** Lays prev and cur; filter stores the raw value, so the predictor has no part in it. */
    static void lay(PaethFilter filter, int[] cells) {
        for (int x = 0; x < 8; x++) {
            filter.filter(x, cells[8 + x]);
        }
        filter.nextRow();
        for (int x = 0; x < 8; x++) {
            filter.filter(x, cells[x]);
        }
    }

    /** Sixteen cells, all different, on both sides of 128, the current row first. */
    static int[] mixed() {
        return new int[] {200, 3, 128, 255, 17, 127, 90, 254, 1, 199, 130, 64, 253, 33, 180, 76};
    }

    /** The predictor of the document, told over the sixteen cells. */
    static int predictor(int[] cells, int x) {
        int a = x > 0 ? cells[x - 1] : 0;
        int b = cells[8 + x];
        int c = x > 0 ? cells[8 + x - 1] : 0;
        return predictor(a, b, c);
    }

    static int predictor(int a, int b, int c) {
        int pa = Math.abs(b - c);
        int pb = Math.abs(a - c);
        int pc = Math.abs(a + b - 2 * c);
        if (pa <= pb && pa <= pc) {
            return a;
        }
        return pb <= pc ? b : c;
    }
}
