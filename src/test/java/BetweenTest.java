/** Promise 12: between. */
public final class BetweenTest {
    public static void main(String[] args) {
        Due due = new Due();
        written(due);
        small(due);
        for (int i = 0; i < 20000; i++) {
            compare(due, (int) (i * 7919L % 5001), (int) (i * 104729L % 5000) + 1,
                (int) (i * 611953L % 5001), (int) (i * 1299709L % 5000) + 1);
        }
        close(due);
        wrong(due);
        due.end();
    }

    private static void written(Due due) {
        one(due, new int[] {3, 10, 1, 3}, 4, 13);
        one(due, new int[] {0, 1, 1, 5000}, 1, 5001);
        one(due, new int[] {0, 5000, 5000, 1}, 1, 1);
        one(due, new int[] {4998, 4999, 4999, 5000}, 9997, 9999);
        one(due, new int[] {4999, 1, 5000, 1}, 9999, 2);
        one(due, new int[] {7, 2, 4, 1}, 11, 3);
        one(due, new int[] {5, 2, 5000, 1}, 3, 1);
        one(due, new int[] {2, 1, 3, 1}, 5, 2);
        unchanged(due, new int[] {2, 4, 1, 2});
        unchanged(due, new int[] {1, 2, 1, 3});
        unchanged(due, new int[] {0, 1, 0, 5000});
        unchanged(due, new int[] {5000, 1, 5000, 1});
        unchanged(due, new int[] {5000, 1, 0, 5000});
    }

    private static String name(int[] ends) {
        return "between(" + ends[0] + ", " + ends[1] + ", " + ends[2] + ", " + ends[3] + ")";
    }

    private static void one(Due due, int[] ends, int top, int bottom) {
        SternDesk desk = Plain.deskWith(355, 113);
        due.is(name(ends), desk.between(ends[0], ends[1], ends[2], ends[3]), 1);
        due.atHand(name(ends), desk, top, bottom);
        // What is found is at hand for all other calls as well as after take.
        SternDesk taken = Plain.deskWith(top, bottom);
        due.is(name(ends) + ", then terms()", desk.terms(), taken.terms());
        due.is(name(ends) + ", then way(0)", desk.way(0), taken.way(0));
        due.is(name(ends) + ", then check()", desk.check(), 1);
    }

    private static void unchanged(Due due, int[] ends) {
        SternDesk desk = Plain.deskWith(355, 113);
        due.is(name(ends), desk.between(ends[0], ends[1], ends[2], ends[3]), 0);
        due.atHand(name(ends), desk, 355, 113);
        due.is(name(ends) + ", then terms()", desk.terms(), 3);
    }

    private static void compare(Due due, int p, int q, int r, int s) {
        Plain plain = Plain.with(355, 113);
        int[] ends = {p, q, r, s};
        if (plain.between(p, q, r, s) == 1) {
            one(due, ends, plain.top, plain.bottom);
        } else {
            unchanged(due, ends);
        }
    }

    private static void small(Due due) {
        for (int p = 0; p <= 13; p++) {
            for (int q = 1; q <= 13; q++) {
                for (int r = 0; r <= 13; r++) {
                    for (int s = 1; s <= 13; s++) {
                        compare(due, p, q, r, s);
                    }
                }
            }
        }
    }

    private static void close(Due due) {
        for (int q = 4900; q <= 5000; q += 7) {
            for (int p = 1; p <= 5000; p += 97) {
                for (int change = -2; change <= 2; change++) {
                    int r = Math.max(0, Math.min(5000, p + change));
                    compare(due, p, q, r, q - 1);
                    compare(due, r, q - 3, p, q);
                }
            }
        }
        compare(due, 2584, 4181, 1597, 2584);
        compare(due, 1597, 2584, 2584, 4181);
        compare(due, 987, 1597, 2584, 4181);
    }

    private static void wrong(Due due) {
        int[] tops = {Integer.MIN_VALUE, -1, 0, 1, 5000, 5001, 100000, Integer.MAX_VALUE};
        int[] bottoms = {Integer.MIN_VALUE, -1, 0, 1, 5000, 5001, 100000, Integer.MAX_VALUE};
        for (int p : tops) {
            for (int q : bottoms) {
                for (int r : tops) {
                    for (int s : bottoms) {
                        if (!Plain.mayBetween(p, q, r, s)) {
                            refused(due, p, q, r, s);
                        }
                    }
                }
            }
        }
    }

    private static void refused(Due due, int p, int q, int r, int s) {
        SternDesk desk = Plain.deskWith(355, 113);
        String call = name(new int[] {p, q, r, s});
        due.refused(call, () -> desk.between(p, q, r, s));
        due.atHand(call, desk, 355, 113);
    }
}
