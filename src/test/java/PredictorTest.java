/** The predictor that promises 2 and 3 rest on, over every a, b and c, and where its neighbours come from. */
public final class PredictorTest {
    private static final Due due = new Due();

    public static void main(String[] args) {
        tiesGoToLeftThenUp();
        everyTriple();
        firstColumnHasNoLeft();
        leftMayBeOfAnEarlierRow();
        due.end();
    }

    private static int predicted(int a, int b, int c) {
        PaethFilter filter = new PaethFilter();
        filter.filter(3, c);
        filter.filter(4, b);
        filter.nextRow();
        filter.filter(3, a);
        return filter.unfilter(4, 0);
    }

    /** Worked out by hand, so that they do not rest on the model in Rows. */
    private static void tiesGoToLeftThenUp() {
        due.is("all alike", predicted(9, 9, 9), 9);
        due.is("pa = pb = 10, pc = 0: up-left", predicted(20, 0, 10), 10);
        due.is("pa = pb = 10, pc = 20: left and up are alike", predicted(20, 20, 10), 20);
        due.is("pa = 1, pb = 2, pc = 1: left before up-left", predicted(12, 9, 10), 12);
        due.is("pa = 2, pb = 1, pc = 1: up before up-left", predicted(9, 12, 10), 12);
        due.is("pa = 3, pb = 1, pc = 2: up", predicted(9, 13, 10), 13);
        due.is("pa = 1, pb = 3, pc = 2: left", predicted(13, 9, 10), 13);
        due.is("pa = 5, pb = 4, pc = 1: up-left", predicted(14, 5, 10), 10);
        due.is("read unsigned", predicted(255, 0, 128), 128);
    }

    private static void everyTriple() {
        PaethFilter filter = new PaethFilter();
        for (int c = 0; c < 256; c++) {
            for (int b = 0; b < 256; b++) {
                filter.filter(0, c);
                filter.filter(1, b);
                filter.nextRow();
                for (int a = 0; a < 256; a++) {
                    filter.filter(0, a);
                    int want = Rows.predictor(a, b, c);
                    due.isIn("unfilter(1, 0) over a, b, c =", a, b, c, filter.unfilter(1, 0), want);
                    due.isIn("filter(1, 0) over a, b, c =", a, b, c, filter.filter(1, 0), -want & 0xFF);
                }
            }
        }
    }

    private static void firstColumnHasNoLeft() {
        for (int b = 0; b < 256; b++) {
            PaethFilter filter = new PaethFilter();
            Rows.lay(filter, new int[] {9, 9, 9, 9, 9, 9, 9, 250, b, 7, 7, 7, 7, 7, 7, 240});
            // a = c = 0: pb is 0 and pa = pc = b, so the cell above is chosen.
            due.is("unfilter(0, 0) below " + b, filter.unfilter(0, 0), b);
        }
    }

    private static void leftMayBeOfAnEarlierRow() {
        PaethFilter filter = new PaethFilter();
        filter.filter(2, 50);
        filter.filter(3, 100);
        filter.nextRow();
        // cur[2] still holds 50: a = 50, b = 100, c = 50. Were it cleared, up-left would be chosen.
        due.is("unfilter(3, 1) beside a kept cell", filter.unfilter(3, 1), 101);
        // cur[1] was never stored: a = 0, b = 50, c = 0.
        due.is("unfilter(2, 1) beside a cell never stored", filter.unfilter(2, 1), 51);
    }
}
