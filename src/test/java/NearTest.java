/** Promise 11: near. */
public final class NearTest {
    public static void main(String[] args) {
        Due due = new Due();
        written(due);
        for (int p = 0; p <= 50; p++) {
            for (int q = 1; q <= 50; q++) {
                for (int n = 1; n <= 51; n++) {
                    compare(due, p, q, n);
                }
            }
        }
        for (int i = 0; i < 2000; i++) {
            compare(due, (int) (i * 7919L % 100001), (int) (i * 104729L % 100000) + 1, (int) (i * 613L % 1000) + 1);
        }
        edges(due);
        wrong(due);
        due.end();
    }

    private static void written(Due due) {
        one(due, 355, 113, 100, 0, 311, 99);
        one(due, 355, 113, 100, 1, 22, 7);
        one(due, 355, 113, 100, 2, 311, 99);
        one(due, 355, 113, 113, 2, 355, 113);
        // Two are as near: the lesser bottom, then the lesser one.
        one(due, 5, 12, 3, 2, 1, 2);
        one(due, 7, 12, 3, 2, 1, 2);
        one(due, 1, 2, 1, 2, 0, 1);
        one(due, 3, 2, 1, 2, 1, 1);
        one(due, 0, 1, 1, 0, 0, 1);
        one(due, 0, 1, 1000, 1, 0, 1);
        one(due, 0, 1, 1000, 2, 0, 1);
        one(due, 2, 4, 1000, 1, 1, 2);
    }

    private static void one(Due due, int p, int q, int n, int way, int top, int bottom) {
        SternDesk desk = Plain.deskWith(p, q);
        String call = p + " / " + q + ": near(" + n + ", " + way + ", ";
        due.is(call + "0)", desk.near(n, way, 0), top);
        due.is(call + "1)", desk.near(n, way, 1), bottom);
    }

    private static void compare(Due due, int p, int q, int n) {
        Plain plain = Plain.with(p, q);
        for (int way = 0; way <= 2; way++) {
            one(due, p, q, n, way, plain.near(n, way, 0), plain.near(n, way, 1));
        }
    }

    private static void edges(Due due) {
        int[] bounds = {1, 2, 3, 499, 500, 501, 999, 1000};
        int[][] fractions = {{1, 100000}, {99999, 100000}, {100000, 99999}, {100000, 1}, {99999, 2}, {1, 1001},
            {1000, 1001}, {46368, 75025}, {75025, 46368}, {49999, 99999}, {1, 1999}, {1, 2000}, {1, 2001}};
        for (int[] fraction : fractions) {
            for (int n : bounds) {
                compare(due, fraction[0], fraction[1], n);
            }
        }
    }

    private static void wrong(Due due) {
        for (int n : Plain.EDGES) {
            for (int way : Plain.EDGES) {
                for (int what : Plain.EDGES) {
                    if (!Plain.mayNear(n, way, what)) {
                        SternDesk desk = Plain.deskWith(355, 113);
                        String call = "near(" + n + ", " + way + ", " + what + ")";
                        due.refused(call, () -> desk.near(n, way, what));
                        due.atHand(call, desk, 355, 113);
                    }
                }
            }
        }
        SternDesk desk = Plain.deskWith(355, 113);
        desk.near(10, 2, 0);
        due.atHand("near(10, 2, 0)", desk, 355, 113);
    }
}
