/** No call throws, in whatever state, and a long mixed run on two objects answers as the document's words do. */
public final class LongRunTest {
    private static final int CALLS = 400_000;
    private static final Due due = new Due();

    private static int seed = 1;

    public static void main(String[] args) {
        PaethFilter[] filters = {new PaethFilter(), new PaethFilter()};
        int[][] cells = new int[2][16];
        for (int call = 0; call < CALLS; call++) {
            int which = next(2);
            step(call, filters[which], cells[which]);
            due.isIn("peek over call, object, place =", call, which, call % 16, filters[which].peek(call % 16),
                cells[which][call % 16]);
        }
        due.cells("first object at the end", filters[0], cells[0]);
        due.cells("second object at the end", filters[1], cells[1]);
        due.end();
    }

    /** A fixed sequence: every run of the test makes the same calls. */
    private static int next(int bound) {
        seed = seed * 1103515245 + 12345;
        return (seed >>> 16) % bound;
    }

    private static int anyColumn() {
        return next(20) > 0 ? next(10) - 1 : Rows.VALUES[next(Rows.VALUES.length)];
    }

    private static int anyValue() {
        return next(4) > 0 ? next(256) : Rows.VALUES[next(Rows.VALUES.length)];
    }

    private static void step(int call, PaethFilter filter, int[] cells) {
        int kind = next(20);
        int x = anyColumn();
        int value = anyValue();
        if (kind == 0) {
            due.isIn("nextRow() over call =", call, 0, 0, filter.nextRow(), copied(cells));
        } else if (kind == 1) {
            int want = value >= 0 && value < 16 ? cells[value] : -1;
            due.isIn("peek over call, i =", call, value, 0, filter.peek(value), want);
        } else if (kind < 11) {
            due.isIn("filter over call, x, raw =", call, x, value, filter.filter(x, value), filtered(cells, x, value));
        } else {
            due.isIn("unfilter over call, x, f =", call, x, value, filter.unfilter(x, value),
                unfiltered(cells, x, value));
        }
    }

    private static int copied(int[] cells) {
        int sum = 0;
        for (int k = 0; k < 8; k++) {
            cells[8 + k] = cells[k];
            sum += cells[k];
        }
        return sum;
    }

    private static int filtered(int[] cells, int x, int raw) {
        if (x < 0 || x > 7) {
            return -1;
        }
        cells[x] = Math.floorMod(raw, 256);
        return Math.floorMod(cells[x] - Rows.predictor(cells, x), 256);
    }

    private static int unfiltered(int[] cells, int x, int f) {
        if (x < 0 || x > 7) {
            return -1;
        }
        cells[x] = Math.floorMod(Math.floorMod(f, 256) + Rows.predictor(cells, x), 256);
        return cells[x];
    }
}
