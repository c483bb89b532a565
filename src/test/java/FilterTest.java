/** Promise 2: filter. */
public final class FilterTest {
    private static final Due due = new Due();

    public static void main(String[] args) {
        examplesOfTheDocument();
        everyColumnAndValue();
        ownCellHasNoPart();
        wrongColumnsChangeNothing();
        firstAndLastColumnAreRight();
        rawBeyondAByte();
        subtractionWraps();
        storesRawNotTheAnswer();
        anyOrderAndAgain();
        due.end();
    }

    private static void examplesOfTheDocument() {
        PaethFilter filter = new PaethFilter();
        due.is("filter(0, 300)", filter.filter(0, 300), 44);
        due.is("peek(0)", filter.peek(0), 44);
        due.is("filter(1, 5)", filter.filter(1, 5), 217);
        due.is("peek(1)", filter.peek(1), 5);
        due.is("fresh filter(0, -1)", new PaethFilter().filter(0, -1), 255);
        PaethFilter negative = new PaethFilter();
        negative.filter(6, -1);
        due.is("peek(6) after filter(6, -1)", negative.peek(6), 255);
    }

    private static void everyColumnAndValue() {
        for (int x = 0; x < 8; x++) {
            for (int raw : Rows.VALUES) {
                PaethFilter filter = new PaethFilter();
                int[] cells = Rows.mixed();
                Rows.lay(filter, cells);
                String call = "filter(" + x + ", " + raw + ")";
                int predicted = Rows.predictor(cells, x);
                due.is(call, filter.filter(x, raw), Math.floorMod((long) raw - predicted, 256L));
                cells[x] = Math.floorMod(raw, 256);
                due.cells("after " + call, filter, cells);
            }
        }
    }

    private static void ownCellHasNoPart() {
        for (int x = 0; x < 8; x++) {
            PaethFilter filter = new PaethFilter();
            Rows.lay(filter, Rows.mixed());
            int first = filter.filter(x, 11);
            filter.filter(x, 222);
            due.is("filter(" + x + ", 11) again", filter.filter(x, 11), first);
        }
    }

    private static void wrongColumnsChangeNothing() {
        for (int[] cells : Rows.states()) {
            PaethFilter filter = Rows.laid(cells);
            for (int x : Rows.outside(7)) {
                for (int raw : Rows.VALUES) {
                    String call = "filter(" + x + ", " + raw + ")";
                    due.is(call, filter.filter(x, raw), -1);
                    due.cells("after " + call, filter, cells);
                }
            }
        }
    }

    private static void firstAndLastColumnAreRight() {
        PaethFilter filter = new PaethFilter();
        due.is("filter(-1, 9)", filter.filter(-1, 9), -1);
        due.is("filter(0, 9)", filter.filter(0, 9), 9);
        due.is("filter(7, 8)", filter.filter(7, 8), 8);
        due.is("filter(8, 9)", filter.filter(8, 9), -1);
        due.cells("after the edges", filter, new int[] {9, 0, 0, 0, 0, 0, 0, 8, 0, 0, 0, 0, 0, 0, 0, 0});
    }

    private static void rawBeyondAByte() {
        int[] raws = {255, 256, 257, 300, 512, -1, -2, -128, -255, -256, -257, Integer.MAX_VALUE, Integer.MIN_VALUE};
        int[] wants = {255, 0, 1, 44, 0, 255, 254, 128, 1, 0, 255, 255, 0};
        for (int k = 0; k < raws.length; k++) {
            PaethFilter filter = new PaethFilter();
            due.is("fresh filter(7, " + raws[k] + ")", filter.filter(7, raws[k]), wants[k]);
            due.is("peek(7) of " + raws[k], filter.peek(7), wants[k]);
        }
    }

    private static void subtractionWraps() {
        for (int p = 1; p < 256; p++) {
            PaethFilter filter = Rows.withFirstPredictor(p);
            String under = " under predictor " + p;
            due.is("filter(0, 0)" + under, filter.filter(0, 0), 256 - p);
            due.is("filter(0, p - 1)" + under, filter.filter(0, p - 1), 255);
            due.is("filter(0, p)" + under, filter.filter(0, p), 0);
            due.is("filter(0, MIN_VALUE)" + under, filter.filter(0, Integer.MIN_VALUE), 256 - p);
            due.is("peek(0) of MIN_VALUE", filter.peek(0), 0);
            due.is("filter(0, MIN_VALUE + p - 1)" + under, filter.filter(0, Integer.MIN_VALUE + p - 1), 255);
            due.is("filter(0, MIN_VALUE + p)" + under, filter.filter(0, Integer.MIN_VALUE + p), 0);
            due.is("filter(0, MAX_VALUE)" + under, filter.filter(0, Integer.MAX_VALUE), 255 - p);
            due.is("peek(0) of MAX_VALUE", filter.peek(0), 255);
        }
    }

    private static void storesRawNotTheAnswer() {
        PaethFilter filter = Rows.withFirstPredictor(100);
        due.is("filter(0, 30) under predictor 100", filter.filter(0, 30), 186);
        due.is("peek(0)", filter.peek(0), 30);
        due.is("nextRow()", filter.nextRow(), 30);
    }

    private static void anyOrderAndAgain() {
        PaethFilter filter = new PaethFilter();
        due.is("filter(7, 10)", filter.filter(7, 10), 10);
        due.is("filter(6, 20)", filter.filter(6, 20), 20);
        due.is("filter(7, 10) beside 20", filter.filter(7, 10), 246);
        due.is("filter(7, 25) beside 20", filter.filter(7, 25), 5);
        due.is("peek(7)", filter.peek(7), 25);
    }
}
