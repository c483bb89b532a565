/** Promise 3: unfilter. */
public final class UnfilterTest {
    private static final Due due = new Due();

    public static void main(String[] args) {
        ordinaryRow();
        everyColumnAndValue();
        wrongColumnsChangeNothing();
        undoesFilterCellByCell();
        undoesFilterRowByRow();
        mixesWithFilter();
        due.end();
    }

    private static void ordinaryRow() {
        PaethFilter filter = new PaethFilter();
        due.is("unfilter(0, 44)", filter.unfilter(0, 44), 44);
        due.is("unfilter(1, 217)", filter.unfilter(1, 217), 5);
        due.is("peek(1)", filter.peek(1), 5);
        due.is("unfilter(2, -6)", filter.unfilter(2, -6), 255);
        due.is("peek(2)", filter.peek(2), 255);
        due.is("unfilter(3, 1)", filter.unfilter(3, 1), 0);
        due.is("peek(3)", filter.peek(3), 0);
    }

    private static void everyColumnAndValue() {
        for (int x = 0; x < 8; x++) {
            for (int f : Rows.VALUES) {
                PaethFilter filter = new PaethFilter();
                int[] cells = Rows.mixed();
                Rows.lay(filter, cells);
                String call = "unfilter(" + x + ", " + f + ")";
                int want = (int) Math.floorMod((long) f + Rows.predictor(cells, x), 256L);
                due.is(call, filter.unfilter(x, f), want);
                cells[x] = want;
                due.cells("after " + call, filter, cells);
                due.is(call + " again", filter.unfilter(x, f), want);
            }
        }
    }

    private static void wrongColumnsChangeNothing() {
        PaethFilter filter = new PaethFilter();
        Rows.lay(filter, Rows.mixed());
        for (int x : Rows.WRONG_COLUMNS) {
            for (int f : Rows.VALUES) {
                String call = "unfilter(" + x + ", " + f + ")";
                due.is(call, filter.unfilter(x, f), -1);
                due.cells("after " + call, filter, Rows.mixed());
            }
        }
    }

    private static void undoesFilterCellByCell() {
        PaethFilter filter = new PaethFilter();
        Rows.lay(filter, Rows.mixed());
        for (int x = 0; x < 8; x++) {
            for (int raw = -300; raw <= 600; raw++) {
                int f = filter.filter(x, raw);
                due.isIn("unfilter of filter over x, raw, f =", x, raw, f, filter.unfilter(x, f), raw & 0xFF);
            }
        }
    }

    private static void undoesFilterRowByRow() {
        PaethFilter sender = new PaethFilter();
        PaethFilter receiver = new PaethFilter();
        for (int row = 0; row < 200; row++) {
            for (int x = 0; x < 8; x++) {
                int raw = row * row * 7 + x * 53 + row * x * 11;
                int f = sender.filter(x, raw);
                due.isIn("received over row, x, f =", row, x, f, receiver.unfilter(x, f), raw & 0xFF);
            }
            due.is("received nextRow() of row " + row, receiver.nextRow(), sender.nextRow());
        }
    }

    private static void mixesWithFilter() {
        PaethFilter filter = new PaethFilter();
        filter.filter(2, 100);
        due.is("unfilter(3, 1) beside a filtered cell", filter.unfilter(3, 1), 101);
        due.is("filter(4, 1) beside an unfiltered cell", filter.filter(4, 1), 156);
        due.is("filter(3, 7) over an unfiltered cell", filter.filter(3, 7), 163);
        due.is("peek(3)", filter.peek(3), 7);
    }
}
