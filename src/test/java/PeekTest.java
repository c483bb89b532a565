/** Promise 5: peek. */
public final class PeekTest {
    private static final Due due = new Due();

    public static void main(String[] args) {
        tellsBothRows();
        tellsUnsigned();
        edgesOfBothRows();
        fullCellIsNotARefusal();
        refusesOtherPlaces();
        changesNothing();
        due.end();
    }

    private static void tellsBothRows() {
        PaethFilter filter = new PaethFilter();
        Rows.lay(filter, Rows.mixed());
        due.cells("laid", filter, Rows.mixed());
    }

    private static void tellsUnsigned() {
        PaethFilter filter = new PaethFilter();
        for (int value = 0; value < 256; value++) {
            filter.filter(5, value);
            due.is("peek(5) of " + value, filter.peek(5), value);
            filter.nextRow();
            due.is("peek(13) of " + value, filter.peek(13), value);
        }
    }

    private static void edgesOfBothRows() {
        PaethFilter filter = Rows.laid(new int[] {11, 1, 1, 1, 1, 1, 1, 22, 33, 2, 2, 2, 2, 2, 2, 44});
        due.is("peek(-1)", filter.peek(-1), -1);
        due.is("peek(0)", filter.peek(0), 11);
        due.is("peek(7)", filter.peek(7), 22);
        due.is("peek(8)", filter.peek(8), 33);
        due.is("peek(15)", filter.peek(15), 44);
        due.is("peek(16)", filter.peek(16), -1);
        due.is("peek(MAX_VALUE)", filter.peek(Integer.MAX_VALUE), -1);
        due.is("peek(MIN_VALUE)", filter.peek(Integer.MIN_VALUE), -1);
    }

    private static void fullCellIsNotARefusal() {
        due.cells("full", Rows.laid(Rows.full()), Rows.full());
    }

    private static void refusesOtherPlaces() {
        for (int[] cells : Rows.states()) {
            PaethFilter filter = Rows.laid(cells);
            for (int i : Rows.outside(15)) {
                due.is("peek(" + i + ")", filter.peek(i), -1);
                due.cells("after peek(" + i + ")", filter, cells);
            }
        }
    }

    private static void changesNothing() {
        PaethFilter peeked = new PaethFilter();
        PaethFilter left = new PaethFilter();
        Rows.lay(peeked, Rows.mixed());
        Rows.lay(left, Rows.mixed());
        for (int i = -20; i <= 40; i++) {
            peeked.peek(i);
            due.cells("after peek(" + i + ")", peeked, Rows.mixed());
        }
        for (int x = 0; x < 8; x++) {
            due.is("filter(" + x + ", 5) after peeks", peeked.filter(x, 5), left.filter(x, 5));
        }
        due.is("nextRow() after peeks", peeked.nextRow(), left.nextRow());
    }
}
