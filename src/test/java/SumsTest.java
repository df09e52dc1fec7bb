/** Promises 16 and 17: floors, sawteeth. */
public final class SumsTest {
    public static void main(String[] args) {
        Due due = new Due();
        written(due);
        for (int p = 0; p <= 40; p++) {
            for (int q = 1; q <= 40; q++) {
                sawteeth(due, p, q);
                for (int n = 0; n <= 45; n++) {
                    floors(due, p, q, n);
                }
            }
        }
        for (int i = 0; i < 500; i++) {
            int p = (int) (i * 7919L % 100001);
            int q = (int) (i * 104729L % 100000) + 1;
            sawteeth(due, p, q);
            floors(due, p, q, (int) (i * 611953L % 100001));
            floors(due, p, q, 100000);
        }
        edges(due);
        wrong(due);
        due.end();
    }

    private static void written(Due due) {
        due.is("355 / 113: floors(1000)", Plain.deskWith(355, 113).floors(1000), 1568730L);
        due.is("99999 / 100000: floors(100000)", Plain.deskWith(99999, 100000).floors(100000), 4999850001L);
        due.is("100000: floors(100000)", Plain.deskWith(100000, 1).floors(100000), 499995000000000L);
        due.is("355 / 113: sawteeth()", Plain.deskWith(355, 113).sawteeth(), -504L);
        due.is("99999 / 100000: sawteeth()", Plain.deskWith(99999, 100000).sawteeth(), -4999850001L);
        due.is("1 / 100000: sawteeth()", Plain.deskWith(1, 100000).sawteeth(), 4999850001L);
        // 1 / 3: (1/3 - 1/2) twice squared is 1/18, times 18 is 1.
        due.is("1 / 3: sawteeth()", Plain.deskWith(1, 3).sawteeth(), 1L);
        due.is("2 / 3: sawteeth()", Plain.deskWith(2, 3).sawteeth(), -1L);
        due.is("4 / 3: sawteeth()", Plain.deskWith(4, 3).sawteeth(), 1L);
        due.is("0: sawteeth()", Plain.deskWith(0, 9).sawteeth(), 0L);
        due.is("1: sawteeth()", new SternDesk().sawteeth(), 0L);
    }

    private static void sawteeth(Due due, int p, int q) {
        SternDesk desk = Plain.deskWith(p, q);
        Plain plain = Plain.with(p, q);
        String call = p + " / " + q + ": sawteeth()";
        due.is(call, desk.sawteeth(), plain.sawteeth());
        due.atHand(call, desk, plain.top, plain.bottom);
    }

    private static void floors(Due due, int p, int q, int n) {
        SternDesk desk = Plain.deskWith(p, q);
        Plain plain = Plain.with(p, q);
        String call = p + " / " + q + ": floors(" + n + ")";
        due.is(call, desk.floors(n), plain.floors(n));
        due.atHand(call, desk, plain.top, plain.bottom);
    }

    private static void edges(Due due) {
        int[][] fractions = {{0, 1}, {1, 1}, {100000, 1}, {1, 100000}, {99999, 100000}, {100000, 99999},
            {46368, 75025}, {75025, 46368}, {50000, 99999}, {99991, 99989}};
        for (int[] fraction : fractions) {
            sawteeth(due, fraction[0], fraction[1]);
            for (int n : new int[] {0, 1, 2, 3, 99999, 100000}) {
                floors(due, fraction[0], fraction[1], n);
            }
        }
    }

    private static void wrong(Due due) {
        for (int n : Plain.EDGES) {
            if (n < 0 || n > 100000) {
                due.is("floors(" + n + ")", new SternDesk().floors(n), -1L);
                due.is("0: floors(" + n + ")", Plain.deskWith(0, 1).floors(n), -1L);
            }
        }
    }
}
