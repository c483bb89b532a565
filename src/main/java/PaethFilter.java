public final class PaethFilter {
    private static final int WIDTH = 8;
    private static final int LOW_BYTE = 0xFF;
    private static final int REFUSED = -1;

    private final byte[] prev = new byte[WIDTH];
    private final byte[] cur = new byte[WIDTH];

    public PaethFilter() {
    }

    public int filter(int x, int raw) {
        if (!isColumn(x)) {
            return REFUSED;
        }
        int predicted = predictor(x);
        cur[x] = (byte) raw;
        return (raw - predicted) & LOW_BYTE;
    }

    public int unfilter(int x, int f) {
        if (!isColumn(x)) {
            return REFUSED;
        }
        int predicted = predictor(x);
        int r = (f + predicted) & LOW_BYTE;
        cur[x] = (byte) r;
        return r;
    }

    public int nextRow() {
        int sum = 0;
        for (int k = 0; k < WIDTH; k++) {
            prev[k] = cur[k];
            sum += cur[k] & LOW_BYTE;
        }
        return sum;
    }

    public int peek(int i) {
        if (i < 0 || i >= 2 * WIDTH) {
            return REFUSED;
        }
        if (i < WIDTH) {
            return cur[i] & LOW_BYTE;
        }
        return prev[i - WIDTH] & LOW_BYTE;
    }

    private static boolean isColumn(int x) {
        return x >= 0 && x < WIDTH;
    }

    private int predictor(int x) {
        // Column 0 has no neighbour to its left: PNG takes 0 for what lies outside the row.
        int left = x > 0 ? cur[x - 1] & LOW_BYTE : 0;
        int up = prev[x] & LOW_BYTE;
        int upLeft = x > 0 ? prev[x - 1] & LOW_BYTE : 0;
        return nearest(left, up, upLeft);
    }

    private static int nearest(int left, int up, int upLeft) {
        int leftDistance = distance(up, upLeft);
        int upDistance = distance(left, upLeft);
        int upLeftDistance = distance(left + up, 2 * upLeft);
        // The order of these tests settles ties: left first, then up, then up-left.
        if (leftDistance <= upDistance && leftDistance <= upLeftDistance) {
            return left;
        }
        if (upDistance <= upLeftDistance) {
            return up;
        }
        return upLeft;
    }

    private static int distance(int p, int q) {
        return p > q ? p - q : q - p;
    }
}
