/** Promise 3: unfilter. */
public final class UnfilterTest {
    private static final Due due = new Due();

    public static void main(String[] args) {
        ordinaryRow();
        everyColumnAndValue();
        wrongColumnsChangeNothing();
        firstAndLastColumnAreRight();
        valueBeyondAByte();
        additionWraps();
        staysUntilStoredAgain();
        anyOrderAndAgain();
        undoesFilterCellByCell();
        undoesFilterAtTheEdgesOfInt();
        undoesFilterRowByRow();
        mixesWithFilter();
        due.end();
    }

    private static void ordinaryRow() {
        PaethFilter filter = new PaethFilter();
        due.is("unfilter(0, 44)", filter.unfilter(0, 44), 44);
        due.is("unfilter(1, 217)", filter.unfilter(1, 217), 5);
        due.is("peek(1)", filter.peek(1), 5);
        due.is("unfilter(2, -6)", filter.unfilter(2, -6), 255);
        due.is("peek(2)", filter.peek(2), 255);
        due.is("unfilter(3, 1)", filter.unfilter(3, 1), 0);
        due.is("peek(3)", filter.peek(3), 0);
    }

    private static void everyColumnAndValue() {
        for (int x = 0; x < 8; x++) {
            for (int f : Rows.VALUES) {
                PaethFilter filter = new PaethFilter();
                int[] cells = Rows.mixed();
                Rows.lay(filter, cells);
                String call = "unfilter(" + x + ", " + f + ")";
                int want = (int) Math.floorMod((long) f + Rows.predictor(cells, x), 256L);
                due.is(call, filter.unfilter(x, f), want);
                cells[x] = want;
                due.cells("after " + call, filter, cells);
                due.is(call + " again", filter.unfilter(x, f), want);
            }
        }
    }

    private static void wrongColumnsChangeNothing() {
        for (int[] cells : Rows.states()) {
            PaethFilter filter = Rows.laid(cells);
            for (int x : Rows.outside(7)) {
                for (int f : Rows.VALUES) {
                    String call = "unfilter(" + x + ", " + f + ")";
                    due.is(call, filter.unfilter(x, f), -1);
                    due.cells("after " + call, filter, cells);
                }
            }
        }
    }

    private static void firstAndLastColumnAreRight() {
        PaethFilter filter = new PaethFilter();
        due.is("unfilter(-1, 9)", filter.unfilter(-1, 9), -1);
        due.is("unfilter(0, 9)", filter.unfilter(0, 9), 9);
        due.is("unfilter(7, 8)", filter.unfilter(7, 8), 8);
        due.is("unfilter(8, 9)", filter.unfilter(8, 9), -1);
        due.cells("after the edges", filter, new int[] {9, 0, 0, 0, 0, 0, 0, 8, 0, 0, 0, 0, 0, 0, 0, 0});
    }

    private static void valueBeyondAByte() {
        int[] values = {255, 256, 257, 300, 512, -1, -2, -128, -255, -256, -257, Integer.MAX_VALUE, Integer.MIN_VALUE};
        int[] wants = {255, 0, 1, 44, 0, 255, 254, 128, 1, 0, 255, 255, 0};
        for (int k = 0; k < values.length; k++) {
            PaethFilter filter = new PaethFilter();
            due.is("fresh unfilter(7, " + values[k] + ")", filter.unfilter(7, values[k]), wants[k]);
            due.is("peek(7) of " + values[k], filter.peek(7), wants[k]);
        }
    }

    private static void additionWraps() {
        for (int p = 1; p < 256; p++) {
            PaethFilter filter = Rows.withFirstPredictor(p);
            String under = " under predictor " + p;
            due.is("unfilter(0, 255 - p)" + under, filter.unfilter(0, 255 - p), 255);
            due.is("unfilter(0, 256 - p)" + under, filter.unfilter(0, 256 - p), 0);
            due.is("unfilter(0, 255)" + under, filter.unfilter(0, 255), p - 1);
            due.is("unfilter(0, -p - 1)" + under, filter.unfilter(0, -p - 1), 255);
            due.is("unfilter(0, MAX_VALUE - p)" + under, filter.unfilter(0, Integer.MAX_VALUE - p), 255);
            due.is("unfilter(0, MAX_VALUE - p + 1)" + under, filter.unfilter(0, Integer.MAX_VALUE - p + 1), 0);
            due.is("unfilter(0, MAX_VALUE)" + under, filter.unfilter(0, Integer.MAX_VALUE), p - 1);
            due.is("peek(0) of MAX_VALUE", filter.peek(0), p - 1);
            due.is("unfilter(0, MIN_VALUE)" + under, filter.unfilter(0, Integer.MIN_VALUE), p);
        }
    }

    private static void staysUntilStoredAgain() {
        for (int x = 0; x < 8; x++) {
            PaethFilter filter = Rows.laid(Rows.mixed());
            int r = filter.unfilter(x, 201);
            for (int other = -1; other <= 8; other++) {
                if (other != x) {
                    filter.unfilter(other, 60 + other);
                    filter.filter(other, 90 + other);
                    filter.peek(other);
                    due.is("peek(" + x + ") after calls on column " + other, filter.peek(x), r);
                }
            }
            filter.nextRow();
            due.is("peek(" + x + ") after nextRow()", filter.peek(x), r);
            filter.filter(x, r + 1);
            due.is("peek(" + x + ") stored again", filter.peek(x), (r + 1) & 0xFF);
        }
    }

    private static void anyOrderAndAgain() {
        PaethFilter filter = new PaethFilter();
        due.is("unfilter(7, 10)", filter.unfilter(7, 10), 10);
        due.is("unfilter(6, 20)", filter.unfilter(6, 20), 20);
        due.is("unfilter(7, 10) beside 20", filter.unfilter(7, 10), 30);
        due.is("unfilter(7, 250) beside 20", filter.unfilter(7, 250), 14);
        due.is("peek(7)", filter.peek(7), 14);
        due.is("peek(6)", filter.peek(6), 20);
    }

    private static void undoesFilterCellByCell() {
        PaethFilter filter = new PaethFilter();
        Rows.lay(filter, Rows.mixed());
        for (int x = 0; x < 8; x++) {
            for (int raw = -300; raw <= 600; raw++) {
                int f = filter.filter(x, raw);
                due.isIn("unfilter of filter over x, raw, f =", x, raw, f, filter.unfilter(x, f), raw & 0xFF);
            }
        }
    }

    private static void undoesFilterAtTheEdgesOfInt() {
        for (int p = 0; p < 256; p++) {
            PaethFilter filter = Rows.withFirstPredictor(p);
            for (int raw : Rows.VALUES) {
                int f = filter.filter(0, raw);
                due.isIn("unfilter of filter over p, raw, f =", p, raw, f, filter.unfilter(0, f), raw & 0xFF);
            }
        }
    }

    private static void undoesFilterRowByRow() {
        PaethFilter sender = new PaethFilter();
        PaethFilter receiver = new PaethFilter();
        for (int row = 0; row < 200; row++) {
            for (int x = 0; x < 8; x++) {
                int raw = row * row * 7 + x * 53 + row * x * 11;
                int f = sender.filter(x, raw);
                due.isIn("received over row, x, f =", row, x, f, receiver.unfilter(x, f), raw & 0xFF);
            }
            due.is("received nextRow() of row " + row, receiver.nextRow(), sender.nextRow());
        }
    }

    private static void mixesWithFilter() {
        PaethFilter filter = new PaethFilter();
        filter.filter(2, 100);
        due.is("unfilter(3, 1) beside a filtered cell", filter.unfilter(3, 1), 101);
        due.is("filter(4, 1) beside an unfiltered cell", filter.filter(4, 1), 156);
        due.is("filter(3, 7) over an unfiltered cell", filter.filter(3, 7), 163);
        due.is("peek(3)", filter.peek(3), 7);
    }
}
