/** Promises 13 to 15: row, pick, place. */
public final class RowsTest {
    public static void main(String[] args) {
        Due due = new Due();
        rows(due);
        for (int n = 1; n <= 60; n++) {
            picks(due, n);
        }
        picks(due, 127);
        picks(due, 128);
        picks(due, 199);
        picks(due, 200);
        places(due);
        wrong(due);
        due.end();
    }

    private static void rows(Due due) {
        int[] sizes = {2, 3, 5, 7, 11, 13};
        for (int n = 1; n <= sizes.length; n++) {
            due.is("row(" + n + ")", new SternDesk().row(n), sizes[n - 1]);
        }
        due.is("row(200)", new SternDesk().row(200), 12233);
        for (int n = 1; n <= 200; n++) {
            due.is("row(" + n + ")", new SternDesk().row(n), Plain.allOfRow(n).length);
        }
        SternDesk desk = Plain.deskWith(355, 113);
        due.is("355 / 113: row(6)", desk.row(6), 13);
        due.atHand("row(6)", desk, 355, 113);
    }

    private static void picks(Due due, int n) {
        int[][] all = Plain.allOfRow(n);
        for (int k = 0; k < all.length; k++) {
            SternDesk desk = Plain.deskWith(355, 113);
            String call = "pick(" + n + ", " + k + ")";
            due.is(call, desk.pick(n, k), 1);
            due.atHand(call, desk, all[k][0], all[k][1]);
            due.is(call + ", then place(" + n + ")", desk.place(n), k);
        }
        none(due, n, all.length);
        none(due, n, -1);
        none(due, n, Integer.MAX_VALUE);
        none(due, n, Integer.MIN_VALUE);
    }

    private static void none(Due due, int n, int k) {
        SternDesk desk = Plain.deskWith(355, 113);
        String call = "pick(" + n + ", " + k + ")";
        due.is(call, desk.pick(n, k), 0);
        due.atHand(call, desk, 355, 113);
        due.is(call + ", then terms()", desk.terms(), 3);
    }

    private static void places(Due due) {
        int[][] fractions = {{0, 1}, {1, 1}, {2, 1}, {100000, 1}, {1, 100000}, {99999, 100000}, {100000, 99999},
            {1, 2}, {1, 200}, {1, 201}, {199, 200}, {200, 201}, {46368, 75025}, {355, 113}, {113, 355}};
        for (int n = 1; n <= 200; n++) {
            for (int[] fraction : fractions) {
                compare(due, fraction[0], fraction[1], n);
            }
            compare(due, n * 499 + 1, 100000 - n * 7, n);
            compare(due, n * 83 + 1, n * 401, n);
        }
    }

    private static void compare(Due due, int p, int q, int n) {
        SternDesk desk = Plain.deskWith(p, q);
        Plain plain = Plain.with(p, q);
        String call = p + " / " + q + ": place(" + n + ")";
        due.is(call, desk.place(n), plain.place(n));
        due.atHand(call, desk, plain.top, plain.bottom);
    }

    private static void wrong(Due due) {
        for (int n : Plain.EDGES) {
            if (!Plain.isRow(n)) {
                due.is("row(" + n + ")", new SternDesk().row(n), -1);
                due.is("place(" + n + ")", new SternDesk().place(n), -1);
                due.is("0: place(" + n + ")", Plain.deskWith(0, 1).place(n), -1);
                none(due, n, 0);
                none(due, n, 1);
            }
        }
    }
}
