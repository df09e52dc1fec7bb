/** Promises 1 to 3: a new object, take, part. */
public final class FractionTest {
    public static void main(String[] args) {
        Due due = new Due();
        newObject(due);
        ordinary(due);
        edges(due);
        wrong(due);
        due.end();
    }

    private static void newObject(Due due) {
        due.atHand("new", new SternDesk(), 1, 1);
        SternDesk first = new SternDesk();
        SternDesk second = new SternDesk();
        first.take(3, 7);
        due.atHand("another object took 3 / 7", second, 1, 1);
        due.atHand("take(3, 7)", first, 3, 7);
    }

    private static void ordinary(Due due) {
        for (int p = 0; p <= 60; p++) {
            SternDesk desk = new SternDesk();
            for (int q = 1; q <= 60; q++) {
                Plain plain = Plain.with(p, q);
                desk.take(p, q);
                due.atHand("take(" + p + ", " + q + ")", desk, plain.top, plain.bottom);
            }
        }
    }

    private static void edges(Due due) {
        due.atHand("take(0, 100000)", Plain.deskWith(0, 100000), 0, 1);
        due.atHand("take(0, 1)", Plain.deskWith(0, 1), 0, 1);
        due.atHand("take(100000, 1)", Plain.deskWith(100000, 1), 100000, 1);
        due.atHand("take(1, 100000)", Plain.deskWith(1, 100000), 1, 100000);
        due.atHand("take(100000, 100000)", Plain.deskWith(100000, 100000), 1, 1);
        due.atHand("take(99999, 100000)", Plain.deskWith(99999, 100000), 99999, 100000);
        due.atHand("take(100000, 99998)", Plain.deskWith(100000, 99998), 50000, 49999);
        due.atHand("take(75025, 46368)", Plain.deskWith(75025, 46368), 75025, 46368);
        for (int what : Plain.EDGES) {
            due.is("part(" + what + ")", Plain.deskWith(6, 4).part(what), what == 0 ? 3 : what == 1 ? 2 : -1);
        }
    }

    private static void wrong(Due due) {
        for (int p : Plain.EDGES) {
            for (int q : Plain.EDGES) {
                if (!Plain.mayTake(p, q)) {
                    SternDesk desk = Plain.deskWith(355, 113);
                    String call = "take(" + p + ", " + q + ")";
                    due.refused(call, () -> desk.take(p, q));
                    due.atHand(call, desk, 355, 113);
                    due.is(call + ", then terms()", desk.terms(), 3);
                }
            }
        }
    }
}
