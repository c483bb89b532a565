/** Promise 1: construction and the start. */
public final class StartTest {
    private static final Due due = new Due();

    public static void main(String[] args) {
        everyCellIsZero();
        everyPredictorIsZero();
        firstRowSumIsZero();
        objectsAreApart();
        laterObjectsStartAtZero();
        due.end();
    }

    private static void everyCellIsZero() {
        due.cells("fresh", new PaethFilter(), new int[16]);
    }

    private static void everyPredictorIsZero() {
        for (int x = 0; x < 8; x++) {
            due.is("fresh filter(" + x + ", 77)", new PaethFilter().filter(x, 77), 77);
            due.is("fresh unfilter(" + x + ", 77)", new PaethFilter().unfilter(x, 77), 77);
        }
    }

    private static void firstRowSumIsZero() {
        due.is("fresh nextRow()", new PaethFilter().nextRow(), 0);
    }

    private static void objectsAreApart() {
        PaethFilter one = new PaethFilter();
        PaethFilter other = new PaethFilter();
        Rows.lay(one, Rows.mixed());
        due.cells("other object", other, new int[16]);
        other.unfilter(3, 9);
        other.nextRow();
        due.cells("first object", one, Rows.mixed());
        one.filter(8, 1);
        one.unfilter(-1, 1);
        one.peek(16);
        due.cells("other object after refused calls", other, new int[] {0, 0, 0, 9, 0, 0, 0, 0, 0, 0, 0, 9, 0, 0, 0, 0});
    }

    private static void laterObjectsStartAtZero() {
        PaethFilter used = new PaethFilter();
        Rows.lay(used, Rows.mixed());
        due.cells("made after use of another", new PaethFilter(), new int[16]);
    }
}
