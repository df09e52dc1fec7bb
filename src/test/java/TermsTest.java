/** Promises 4 to 6: terms, term, convergent. */
public final class TermsTest {
    public static void main(String[] args) {
        Due due = new Due();
        written(due);
        for (int p = 0; p <= 80; p++) {
            for (int q = 1; q <= 80; q++) {
                compare(due, p, q);
            }
        }
        for (int i = 0; i < 3000; i++) {
            compare(due, (int) (i * 7919L % 100001), (int) (i * 104729L % 100000) + 1);
        }
        compare(due, 46368, 75025);
        compare(due, 75025, 46368);
        compare(due, 99999, 100000);
        compare(due, 100000, 99999);
        wrong(due);
        due.end();
    }

    private static void written(Due due) {
        int[] terms = {3, 7, 16};
        int[] tops = {3, 22, 355};
        int[] bottoms = {1, 7, 113};
        SternDesk desk = Plain.deskWith(355, 113);
        due.is("355 / 113: terms()", desk.terms(), 3);
        for (int i = 0; i < 3; i++) {
            due.is("355 / 113: term(" + i + ")", desk.term(i), terms[i]);
            due.is("355 / 113: convergent(" + i + ", 0)", desk.convergent(i, 0), tops[i]);
            due.is("355 / 113: convergent(" + i + ", 1)", desk.convergent(i, 1), bottoms[i]);
        }
        due.is("new: terms()", new SternDesk().terms(), 1);
        due.is("new: term(0)", new SternDesk().term(0), 1);
        SternDesk zero = Plain.deskWith(0, 7);
        due.is("0: terms()", zero.terms(), 1);
        due.is("0: term(0)", zero.term(0), 0);
        due.is("0: convergent(0, 0)", zero.convergent(0, 0), 0);
        due.is("0: convergent(0, 1)", zero.convergent(0, 1), 1);
        SternDesk half = Plain.deskWith(1, 2);
        due.is("1 / 2: terms()", half.terms(), 2);
        due.is("1 / 2: term(1)", half.term(1), 2);
        due.is("46368 / 75025: terms()", Plain.deskWith(46368, 75025).terms(), 24);
        // A last term 1 is allowed in a convergent: 5 / 3 is 1 1 2, its convergent 1 is 2 / 1.
        due.is("5 / 3: convergent(1, 0)", Plain.deskWith(5, 3).convergent(1, 0), 2);
        due.is("5 / 3: convergent(1, 1)", Plain.deskWith(5, 3).convergent(1, 1), 1);
    }

    private static void compare(Due due, int p, int q) {
        SternDesk desk = Plain.deskWith(p, q);
        Plain plain = Plain.with(p, q);
        String name = p + " / " + q + ": ";
        int count = plain.terms();
        due.is(name + "terms()", desk.terms(), count);
        due.holds(name + "a last term from 2 on", count == 1 || desk.term(count - 1) >= 2);
        for (int i = -1; i <= count; i++) {
            due.is(name + "term(" + i + ")", desk.term(i), plain.term(i));
            due.is(name + "convergent(" + i + ", 0)", desk.convergent(i, 0), plain.convergent(i, 0));
            due.is(name + "convergent(" + i + ", 1)", desk.convergent(i, 1), plain.convergent(i, 1));
        }
    }

    private static void wrong(Due due) {
        for (int i : Plain.EDGES) {
            // The longer fraction before must not be seen through the shorter one.
            SternDesk desk = Plain.deskWith(46368, 75025);
            desk.take(355, 113);
            boolean none = i < 0 || i > 2;
            due.is("355 / 113: is term(" + i + ") NONE", desk.term(i) == -1 ? 1 : 0, none ? 1 : 0);
            for (int what : Plain.EDGES) {
                boolean noSuch = none || what < 0 || what > 1;
                due.is("355 / 113: is convergent(" + i + ", " + what + ") NONE",
                    desk.convergent(i, what) == -1 ? 1 : 0, noSuch ? 1 : 0);
            }
        }
    }
}
