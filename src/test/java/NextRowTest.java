import java.util.Arrays;
import java.util.stream.IntStream;

/** Promise 4: nextRow. */
public final class NextRowTest {
    private static final Due due = new Due();

    public static void main(String[] args) {
        copiesAndKeeps();
        rowsStayApart();
        againChangesNothing();
        emptyAndFullAgain();
        leastAndGreatestSum();
        whicheverColumnsAreStored();
        formerRowIsGone();
        everyColumnCounts();
        due.end();
    }

    private static int[] currentTwice(int[] cells) {
        int[] twice = cells.clone();
        System.arraycopy(cells, 0, twice, 8, 8);
        return twice;
    }

    private static void copiesAndKeeps() {
        PaethFilter filter = new PaethFilter();
        Rows.lay(filter, Rows.mixed());
        due.is("nextRow()", filter.nextRow(), 200 + 3 + 128 + 255 + 17 + 127 + 90 + 254);
        due.cells("after nextRow()", filter, currentTwice(Rows.mixed()));
    }

    private static void rowsStayApart() {
        PaethFilter filter = new PaethFilter();
        Rows.lay(filter, Rows.mixed());
        filter.nextRow();
        int[] cells = currentTwice(Rows.mixed());
        for (int x = 0; x < 8; x++) {
            filter.filter(x, 40 + x);
            cells[x] = 40 + x;
            due.cells("after nextRow() and filter(" + x + ")", filter, cells);
            cells[x] = filter.unfilter(x, 1);
            due.cells("after nextRow() and unfilter(" + x + ")", filter, cells);
            filter.filter(x, 40 + x);
            cells[x] = 40 + x;
        }
        due.is("second nextRow()", filter.nextRow(), 8 * 40 + 28);
        due.cells("after the second nextRow()", filter, currentTwice(cells));
    }

    private static void againChangesNothing() {
        PaethFilter filter = new PaethFilter();
        Rows.lay(filter, Rows.mixed());
        int sum = filter.nextRow();
        for (int time = 0; time < 3; time++) {
            due.is("nextRow() again", filter.nextRow(), sum);
            due.cells("after nextRow() again", filter, currentTwice(Rows.mixed()));
        }
    }

    private static void emptyAndFullAgain() {
        PaethFilter empty = new PaethFilter();
        PaethFilter full = Rows.laid(Rows.full());
        for (int time = 1; time <= 3; time++) {
            due.is("nextRow() of the empty row, time " + time, empty.nextRow(), 0);
            due.cells("after nextRow() of the empty row", empty, new int[16]);
            due.is("nextRow() of the full row, time " + time, full.nextRow(), 2040);
            due.cells("after nextRow() of the full row", full, Rows.full());
        }
    }

    private static void whicheverColumnsAreStored() {
        for (int chosen = 0; chosen < 256; chosen++) {
            PaethFilter filter = new PaethFilter();
            int[] cells = new int[16];
            for (int x = 0; x < 8; x++) {
                if ((chosen >> x & 1) == 1) {
                    filter.filter(x, 255 - x);
                    cells[x] = 255 - x;
                }
            }
            int sum = IntStream.of(cells).sum();
            due.is("nextRow() with columns of mask " + chosen, filter.nextRow(), sum);
            due.cells("after nextRow() with columns of mask " + chosen, filter, currentTwice(cells));
        }
    }

    private static void formerRowIsGone() {
        int[] cells = new int[16];
        Arrays.fill(cells, 8, 16, 255);
        PaethFilter filter = Rows.laid(cells);
        due.is("nextRow() of an empty row under a full one", filter.nextRow(), 0);
        due.cells("after it", filter, new int[16]);
    }

    private static void leastAndGreatestSum() {
        PaethFilter filter = new PaethFilter();
        due.is("fresh nextRow()", filter.nextRow(), 0);
        due.cells("after fresh nextRow()", filter, new int[16]);
        for (int x = 0; x < 8; x++) {
            filter.filter(x, 255);
        }
        due.is("nextRow() of all 255", filter.nextRow(), 2040);
        due.cells("after nextRow() of all 255", filter, Rows.full());
        for (int x = 0; x < 8; x++) {
            filter.filter(x, 0);
        }
        due.is("nextRow() of all 0 below 255", filter.nextRow(), 0);
        due.cells("after nextRow() of all 0", filter, new int[16]);
    }

    private static void everyColumnCounts() {
        for (int x = 0; x < 8; x++) {
            for (int value = 0; value < 256; value++) {
                PaethFilter filter = new PaethFilter();
                filter.filter(x, value);
                due.isIn("nextRow() over x, value, value =", x, value, value, filter.nextRow(), value);
                due.isIn("peek(8 + x) over x, value, value =", x, value, value, filter.peek(8 + x), value);
            }
        }
    }
}
