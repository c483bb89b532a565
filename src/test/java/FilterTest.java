/** Promise 2: filter. */
public final class FilterTest {
    private static final Due due = new Due();

    public static void main(String[] args) {
        examplesOfTheDocument();
        everyColumnAndValue();
        ownCellHasNoPart();
        wrongColumnsChangeNothing();
        anyOrderAndAgain();
        due.end();
    }

    private static void examplesOfTheDocument() {
        PaethFilter filter = new PaethFilter();
        due.is("filter(0, 300)", filter.filter(0, 300), 44);
        due.is("peek(0)", filter.peek(0), 44);
        due.is("filter(1, 5)", filter.filter(1, 5), 217);
        due.is("peek(1)", filter.peek(1), 5);
        due.is("fresh filter(0, -1)", new PaethFilter().filter(0, -1), 255);
        PaethFilter negative = new PaethFilter();
        negative.filter(6, -1);
        due.is("peek(6) after filter(6, -1)", negative.peek(6), 255);
    }

    private static void everyColumnAndValue() {
        for (int x = 0; x < 8; x++) {
            for (int raw : Rows.VALUES) {
                PaethFilter filter = new PaethFilter();
                int[] cells = Rows.mixed();
                Rows.lay(filter, cells);
                String call = "filter(" + x + ", " + raw + ")";
                int predicted = Rows.predictor(cells, x);
                due.is(call, filter.filter(x, raw), Math.floorMod((long) raw - predicted, 256L));
                cells[x] = Math.floorMod(raw, 256);
                due.cells("after " + call, filter, cells);
            }
        }
    }

    private static void ownCellHasNoPart() {
        for (int x = 0; x < 8; x++) {
            PaethFilter filter = new PaethFilter();
            Rows.lay(filter, Rows.mixed());
            int first = filter.filter(x, 11);
            filter.filter(x, 222);
            due.is("filter(" + x + ", 11) again", filter.filter(x, 11), first);
        }
    }

    private static void wrongColumnsChangeNothing() {
        PaethFilter filter = new PaethFilter();
        Rows.lay(filter, Rows.mixed());
        for (int x : Rows.WRONG_COLUMNS) {
            for (int raw : Rows.VALUES) {
                String call = "filter(" + x + ", " + raw + ")";
                due.is(call, filter.filter(x, raw), -1);
                due.cells("after " + call, filter, Rows.mixed());
            }
        }
    }

    private static void anyOrderAndAgain() {
        PaethFilter filter = new PaethFilter();
        due.is("filter(7, 10)", filter.filter(7, 10), 10);
        due.is("filter(6, 20)", filter.filter(6, 20), 20);
        due.is("filter(7, 10) beside 20", filter.filter(7, 10), 246);
        due.is("filter(7, 25) beside 20", filter.filter(7, 25), 5);
        due.is("peek(7)", filter.peek(7), 25);
    }
}
