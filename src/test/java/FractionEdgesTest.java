/** Promises 1 to 3 at their boundaries; above each test stands the document's sentence. */
public final class FractionEdgesTest {
    public static void main(String[] args) {
        Due due = new Due();
        atFirst(due);
        constant(due);
        leastAndMostTop(due);
        leastAndMostBottom(due);
        topTooSmall(due);
        topTooLarge(due);
        bottomTooSmall(due);
        bottomTooLarge(due);
        bothWrong(due);
        leastTerms(due);
        noSuchPart(due);
        due.end();
    }

    /** "at first 1 / 1", and "1 / 1 is at hand": also when the first call is refused. */
    private static void atFirst(Due due) {
        due.atHand("new", new SternDesk(), 1, 1);
        SternDesk desk = new SternDesk();
        due.refused("new: take(-1, 1)", () -> desk.take(-1, 1));
        due.atHand("new: take(-1, 1)", desk, 1, 1);
        due.is("new: take(-1, 1), then terms()", desk.terms(), 1);
        due.is("new: take(-1, 1), then term(0)", desk.term(0), 1);
    }

    /** "NONE = -1: There is none." */
    private static void constant(Due due) {
        due.is("NONE", SternDesk.NONE, -1);
        due.is("part(2)", new SternDesk().part(2), SternDesk.NONE);
    }

    /** "top from 0 to 100000" */
    private static void leastAndMostTop(Due due) {
        takes(due, 0, 1, 0, 1);
        takes(due, 1, 1, 1, 1);
        takes(due, 99999, 1, 99999, 1);
        takes(due, 100000, 1, 100000, 1);
    }

    /** "bottom from 1 to 100000" */
    private static void leastAndMostBottom(Due due) {
        takes(due, 1, 1, 1, 1);
        takes(due, 1, 2, 1, 2);
        takes(due, 1, 99999, 1, 99999);
        takes(due, 1, 100000, 1, 100000);
    }

    private static void takes(Due due, int p, int q, int top, int bottom) {
        for (Edge edge : Edge.withAll(due)) {
            edge.moves("take(" + p + ", " + q + ")", desk -> take(desk, p, q), top, bottom);
        }
    }

    private static int take(SternDesk desk, int p, int q) {
        desk.take(p, q);
        return 1;
    }

    private static void refused(Due due, int p, int q) {
        for (Edge edge : Edge.withAll(due)) {
            edge.refuses("take(" + p + ", " + q + ")", desk -> take(desk, p, q));
        }
    }

    /** "IllegalArgumentException when p is not 0 .. 100000", below. */
    private static void topTooSmall(Due due) {
        for (int q : new int[] {1, 2, 100000}) {
            refused(due, -1, q);
            refused(due, Edge.LEAST_INT, q);
        }
    }

    /** "IllegalArgumentException when p is not 0 .. 100000", above; least terms come too late. */
    private static void topTooLarge(Due due) {
        for (int q : new int[] {1, 100000}) {
            refused(due, 100001, q);
            refused(due, Edge.MOST_INT, q);
        }
        refused(due, 100002, 2);
        refused(due, 200000, 100000);
    }

    /** "or q not 1 .. 100000", below. */
    private static void bottomTooSmall(Due due) {
        for (int p : new int[] {0, 1, 100000}) {
            refused(due, p, 0);
            refused(due, p, -1);
            refused(due, p, Edge.LEAST_INT);
        }
    }

    /** "or q not 1 .. 100000", above; least terms come too late. */
    private static void bottomTooLarge(Due due) {
        for (int p : new int[] {0, 1, 100000}) {
            refused(due, p, 100001);
            refused(due, p, Edge.MOST_INT);
        }
        refused(due, 2, 100002);
        refused(due, 100000, 200000);
    }

    /** Both wrong at once: two signs do not make a fraction right. */
    private static void bothWrong(Due due) {
        refused(due, -1, 0);
        refused(due, -1, -1);
        refused(due, 100001, 100001);
        refused(due, 100001, 0);
        refused(due, -1, 100001);
        refused(due, Edge.LEAST_INT, Edge.LEAST_INT);
    }

    /** "p / q is at hand, in least terms": nothing to take out, all of it to take out, and 0. */
    private static void leastTerms(Due due) {
        takes(due, 100000, 100000, 1, 1);
        takes(due, 99999, 100000, 99999, 100000);
        takes(due, 100000, 99999, 100000, 99999);
        takes(due, 99998, 100000, 49999, 50000);
        takes(due, 50000, 100000, 1, 2);
        takes(due, 100000, 50000, 2, 1);
        takes(due, 0, 2, 0, 1);
        takes(due, 0, 100000, 0, 1);
    }

    /** "The top (what 0) or bottom (1) of the fraction at hand; NONE for others." */
    private static void noSuchPart(Due due) {
        for (int i = 0; i < Edge.FRACTIONS.length; i++) {
            Edge edge = Edge.withAll(due)[i];
            edge.tells("part(0)", desk -> desk.part(0), Edge.FRACTIONS[i][0]);
            edge.tells("part(1)", desk -> desk.part(1), Edge.FRACTIONS[i][1]);
            for (int what : new int[] {Edge.LEAST_INT, -1, 2, Edge.MOST_INT}) {
                edge.tells("part(" + what + ")", desk -> desk.part(what), -1);
            }
        }
    }
}
