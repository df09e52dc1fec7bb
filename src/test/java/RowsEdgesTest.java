/** Promises 13 to 15 at their boundaries; above each test stands the document's sentence. */
public final class RowsEdgesTest {
    private static final int[] NO_ROWS = {Edge.LEAST_INT, -200, -1, 0, 201, 202, 100000, Edge.MOST_INT};

    public static void main(String[] args) {
        Due due = new Due();
        sizes(due);
        noSuchRow(due);
        firstAndLast(due);
        bottomNotAbove(due);
        noSuchFraction(due);
        noRowToPickFrom(due);
        nothingBelow(due);
        allButOneBelow(due);
        allBelow(due);
        itselfIsNotBelow(due);
        noRowForPlace(due);
        due.end();
    }

    private static void row(Due due, int n, int want) {
        for (Edge edge : Edge.withAll(due)) {
            edge.tells("row(" + n + ")", desk -> desk.row(n), want);
        }
    }

    private static void picks(Due due, int n, int k, int top, int bottom) {
        for (Edge edge : Edge.withAll(due)) {
            edge.moves("pick(" + n + ", " + k + ")", desk -> desk.pick(n, k), top, bottom);
        }
    }

    private static void picksNone(Due due, int n, int k) {
        for (Edge edge : Edge.withAll(due)) {
            edge.tells("pick(" + n + ", " + k + ")", desk -> desk.pick(n, k), 0);
        }
    }

    private static void place(Due due, int p, int q, int n, int want) {
        Edge.with(due, p, q).tells("place(" + n + ")", desk -> desk.place(n), want);
    }

    /** "ROW n, for n from 1 to 200", and "How many fractions row n has" */
    private static void sizes(Due due) {
        row(due, 1, 2);
        row(due, 2, 3);
        row(due, 3, 5);
        row(due, 199, 12153);
        row(due, 200, 12233);
    }

    /** "NONE when there is no such row" */
    private static void noSuchRow(Due due) {
        for (int n : NO_ROWS) {
            row(due, n, -1);
        }
    }

    /** "from 0 / 1 to 1 / 1 .., in order, numbered from 0" */
    private static void firstAndLast(Due due) {
        picks(due, 1, 0, 0, 1);
        picks(due, 1, 1, 1, 1);
        picks(due, 2, 0, 0, 1);
        picks(due, 2, 1, 1, 2);
        picks(due, 2, 2, 1, 1);
        picks(due, 200, 0, 0, 1);
        picks(due, 200, 1, 1, 200);
        picks(due, 200, 2, 1, 199);
        picks(due, 200, 6116, 1, 2);
        picks(due, 200, 12230, 198, 199);
        picks(due, 200, 12231, 199, 200);
        picks(due, 200, 12232, 1, 1);
    }

    /** "in least terms whose bottom is not above n": each row's first one behind 0, and what is new in it. */
    private static void bottomNotAbove(Due due) {
        for (int n = 2; n <= 200; n++) {
            int row = n;
            int last = new SternDesk().row(n) - 2;
            Edge.with(due, 0, 1).moves("pick(" + n + ", 1)", desk -> desk.pick(row, 1), 1, n);
            Edge.with(due, 0, 1).moves("pick(" + n + ", " + last + ")", desk -> desk.pick(row, last), n - 1, n);
        }
        // 2 / 4 is not in least terms: 1 / 2 stands between 1 / 3 and 2 / 3 in row 4 once.
        picks(due, 4, 2, 1, 3);
        picks(due, 4, 3, 1, 2);
        picks(due, 4, 4, 2, 3);
        // 2 / 5 comes with row 5.
        picks(due, 5, 4, 2, 5);
    }

    /** "0, and nothing is changed, when there is none such": beside the first and the last of a row. */
    private static void noSuchFraction(Due due) {
        int[][] sizes = {{1, 2}, {2, 3}, {199, 12153}, {200, 12233}};
        for (int[] size : sizes) {
            for (int k : new int[] {Edge.LEAST_INT, -1, size[1], size[1] + 1, Edge.MOST_INT}) {
                picksNone(due, size[0], k);
            }
            picks(due, size[0], 0, 0, 1);
            picks(due, size[0], size[1] - 1, 1, 1);
        }
        for (int n = 1; n <= 200; n++) {
            int row = n;
            int size = new SternDesk().row(n);
            Edge edge = Edge.with(due, 355, 113);
            edge.moves("pick(" + n + ", " + (size - 1) + ")", desk -> desk.pick(row, size - 1), 1, 1);
            edge.tells("pick(" + n + ", " + size + ")", desk -> desk.pick(row, size), 0);
            edge.tells("pick(" + n + ", -1)", desk -> desk.pick(row, -1), 0);
        }
    }

    /** "0, and nothing is changed, when there is none such": there is no such row. */
    private static void noRowToPickFrom(Due due) {
        for (int n : NO_ROWS) {
            for (int k : new int[] {Edge.LEAST_INT, -1, 0, 1, 2, 12232, Edge.MOST_INT}) {
                picksNone(due, n, k);
            }
        }
    }

    /** "How many fractions of row n are below the one at hand": none for 0, just 0 / 1 up to 1 / n. */
    private static void nothingBelow(Due due) {
        for (int n : new int[] {1, 2, 199, 200}) {
            place(due, 0, 1, n, 0);
            place(due, 1, 100000, n, 1);
            place(due, 1, n, n, 1);
        }
        place(due, 1, 201, 200, 1);
        place(due, 1, 200, 200, 1);
        place(due, 1, 199, 200, 2);
        place(due, 2, 399, 200, 2);
    }

    /** ".. below the one at hand": for 1, and just below it, 1 / 1 itself is left. */
    private static void allButOneBelow(Due due) {
        int[][] sizes = {{1, 2}, {2, 3}, {199, 12153}, {200, 12233}};
        for (int[] size : sizes) {
            place(due, 1, 1, size[0], size[1] - 1);
            place(due, 99999, 100000, size[0], size[1] - 1);
        }
        place(due, 200, 201, 200, 12232);
        place(due, 199, 200, 200, 12231);
    }

    /** ".. below the one at hand": all of them for what is above 1. */
    private static void allBelow(Due due) {
        int[][] sizes = {{1, 2}, {2, 3}, {199, 12153}, {200, 12233}};
        for (int[] size : sizes) {
            place(due, 100000, 99999, size[0], size[1]);
            place(due, 2, 1, size[0], size[1]);
            place(due, 100000, 1, size[0], size[1]);
        }
    }

    /** ".. below the one at hand": one of the row is not below itself, but below what is just above it. */
    private static void itselfIsNotBelow(Due due) {
        place(due, 49999, 100000, 200, 6116);
        place(due, 1, 2, 200, 6116);
        place(due, 50000, 99999, 200, 6117);
        place(due, 1, 2, 1, 1);
        place(due, 1, 2, 2, 1);
        place(due, 33333, 100000, 3, 1);
        place(due, 1, 3, 3, 1);
        place(due, 33334, 99999, 3, 2);
    }

    /** "NONE when there is no such row": whatever is at hand. */
    private static void noRowForPlace(Due due) {
        for (int n : NO_ROWS) {
            for (Edge edge : Edge.withAll(due)) {
                edge.tells("place(" + n + ")", desk -> desk.place(n), -1);
            }
        }
    }
}
