import java.util.Arrays;

/** Promises 4 to 6 at their boundaries; above each test stands the document's sentence. */
public final class TermsEdgesTest {
    public static void main(String[] args) {
        Due due = new Due();
        justOne(due);
        lastFromTwoOn(due);
        nothingLeft(due);
        mostTerms(due);
        lastOneInConvergent(due);
        noSuchTerm(due);
        noSuchConvergent(due);
        noSuchWhat(due);
        termsOfOthersBefore(due);
        due.end();
    }

    private static void has(Due due, int p, int q, int... terms) {
        Edge edge = Edge.with(due, p, q);
        edge.tells("terms()", SternDesk::terms, terms.length);
        for (int i = 0; i < terms.length; i++) {
            int at = i;
            edge.tells("term(" + i + ")", desk -> desk.term(at), terms[i]);
        }
        edge.tells("term(" + terms.length + ")", desk -> desk.term(terms.length), -1);
    }

    /** "but for the fractions 0 and 1, which have just one" */
    private static void justOne(Due due) {
        has(due, 0, 1, 0);
        has(due, 1, 1, 1);
        due.is("new: terms()", new SternDesk().terms(), 1);
        due.is("new: term(0)", new SternDesk().term(0), 1);
        due.is("new: term(1)", new SternDesk().term(1), -1);
    }

    /** "the last one is 2 or more": next to 0 and 1, and where a last 1 would stand. */
    private static void lastFromTwoOn(Due due) {
        has(due, 1, 2, 0, 2);
        has(due, 2, 1, 2);
        has(due, 3, 2, 1, 2);
        has(due, 2, 3, 0, 1, 2);
        has(due, 1, 100000, 0, 100000);
        has(due, 99999, 100000, 0, 1, 99999);
        has(due, 100000, 99999, 1, 99999);
    }

    /** "as long as something is left": nothing for whole numbers, the least for others. */
    private static void nothingLeft(Due due) {
        has(due, 99999, 1, 99999);
        has(due, 100000, 1, 100000);
        has(due, 99999, 2, 49999, 2);
        has(due, 100000, 3, 33333, 3);
    }

    /** "How many terms it has": the most that numbers up to 100000 can give. */
    private static void mostTerms(Due due) {
        int[] terms = new int[24];
        for (int i = 1; i < 23; i++) {
            terms[i] = 1;
        }
        terms[23] = 2;
        has(due, 46368, 75025, terms);
        has(due, 75025, 46368, Arrays.copyOfRange(terms, 1, 24));
    }

    private static void converges(Due due, int p, int q, int i, int top, int bottom) {
        Edge edge = Edge.with(due, p, q);
        edge.tells("convergent(" + i + ", 0)", desk -> desk.convergent(i, 0), top);
        edge.tells("convergent(" + i + ", 1)", desk -> desk.convergent(i, 1), bottom);
    }

    /** "1 for a last one is allowed there", and the last convergent is the fraction itself. */
    private static void lastOneInConvergent(Due due) {
        converges(due, 5, 3, 0, 1, 1);
        converges(due, 5, 3, 1, 2, 1);
        converges(due, 5, 3, 2, 5, 3);
        converges(due, 99999, 100000, 0, 0, 1);
        converges(due, 99999, 100000, 1, 1, 1);
        converges(due, 99999, 100000, 2, 99999, 100000);
        converges(due, 46368, 75025, 1, 1, 1);
        converges(due, 46368, 75025, 22, 17711, 28657);
        converges(due, 46368, 75025, 23, 46368, 75025);
        converges(due, 0, 1, 0, 0, 1);
        converges(due, 1, 1, 0, 1, 1);
        converges(due, 100000, 1, 0, 100000, 1);
        converges(due, 1, 100000, 0, 0, 1);
        converges(due, 1, 100000, 1, 1, 100000);
    }

    private static int[] beside(int terms) {
        return new int[] {Edge.LEAST_INT, -1, terms, terms + 1, 32, 33, 100000, Edge.MOST_INT};
    }

    /** "Term i; NONE when there is none such": behind the last one, and before the first. */
    private static void noSuchTerm(Due due) {
        for (int[] one : Edge.FRACTIONS) {
            Plain plain = Plain.with(one[0], one[1]);
            Edge edge = Edge.with(due, one[0], one[1]);
            int last = plain.terms() - 1;
            edge.tells("term(0)", desk -> desk.term(0), one[0] / one[1]);
            edge.tells("term(" + last + ")", desk -> desk.term(last), plain.term(last));
            for (int i : beside(last + 1)) {
                edge.tells("term(" + i + ")", desk -> desk.term(i), -1);
            }
        }
    }

    /** "the top (what 0) or bottom (1) of convergent i; NONE when there is none such" */
    private static void noSuchConvergent(Due due) {
        for (int[] one : Edge.FRACTIONS) {
            Edge edge = Edge.with(due, one[0], one[1]);
            int last = Plain.with(one[0], one[1]).terms() - 1;
            converges(due, one[0], one[1], 0, one[0] / one[1], 1);
            converges(due, one[0], one[1], last, one[0], one[1]);
            for (int i : beside(last + 1)) {
                edge.tells("convergent(" + i + ", 0)", desk -> desk.convergent(i, 0), -1);
                edge.tells("convergent(" + i + ", 1)", desk -> desk.convergent(i, 1), -1);
                edge.tells("convergent(" + i + ", 2)", desk -> desk.convergent(i, 2), -1);
            }
        }
    }

    /** "or no such what" */
    private static void noSuchWhat(Due due) {
        for (int[] one : Edge.FRACTIONS) {
            Edge edge = Edge.with(due, one[0], one[1]);
            int last = Plain.with(one[0], one[1]).terms() - 1;
            for (int what : new int[] {Edge.LEAST_INT, -1, 2, Edge.MOST_INT}) {
                edge.tells("convergent(0, " + what + ")", desk -> desk.convergent(0, what), -1);
                edge.tells("convergent(" + last + ", " + what + ")", desk -> desk.convergent(last, what), -1);
            }
        }
    }

    /** "NONE when there is none such": a longer fraction before leaves no terms behind. */
    private static void termsOfOthersBefore(Due due) {
        SternDesk desk = Plain.deskWith(46368, 75025);
        desk.take(1, 2);
        due.is("46368 / 75025, then take(1, 2): terms()", desk.terms(), 2);
        for (int i = 2; i < 25; i++) {
            due.is("46368 / 75025, then take(1, 2): term(" + i + ")", desk.term(i), -1);
            due.is("46368 / 75025, then take(1, 2): convergent(" + i + ", 0)", desk.convergent(i, 0), -1);
        }
    }
}
