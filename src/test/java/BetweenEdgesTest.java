/** Promise 12 at its boundaries; above each test stands the document's sentence. */
public final class BetweenEdgesTest {
    public static void main(String[] args) {
        Due due = new Due();
        aboveAndBelow(due);
        leastBottom(due);
        leastTop(due);
        largestFound(due);
        notBelow(due);
        justBelow(due);
        topTooSmall(due);
        topTooLarge(due);
        bottomTooSmall(due);
        bottomTooLarge(due);
        wrongAndNotBelow(due);
        due.end();
    }

    private static String name(int p, int q, int r, int s) {
        return "between(" + p + ", " + q + ", " + r + ", " + s + ")";
    }

    private static void finds(Due due, int p, int q, int r, int s, int... found) {
        for (Edge edge : Edge.withAll(due)) {
            edge.moves(name(p, q, r, s), desk -> desk.between(p, q, r, s), found[0], found[1]);
        }
    }

    private static void stays(Due due, int p, int q, int r, int s) {
        for (Edge edge : Edge.withAll(due)) {
            edge.tells(name(p, q, r, s), desk -> desk.between(p, q, r, s), 0);
        }
    }

    private static void refused(Due due, int p, int q, int r, int s) {
        for (Edge edge : Edge.withAll(due)) {
            edge.refuses(name(p, q, r, s), desk -> desk.between(p, q, r, s));
        }
    }

    /** "above p / q and below r / s": neither of the two is between them. */
    private static void aboveAndBelow(Due due) {
        finds(due, 0, 1, 1, 1, 1, 2);
        finds(due, 1, 1, 2, 1, 3, 2);
        finds(due, 1, 1, 3, 1, 2, 1);
        finds(due, 0, 1, 1, 2, 1, 3);
        finds(due, 1, 2, 1, 1, 2, 3);
        finds(due, 5, 2, 3, 1, 8, 3);
        finds(due, 3, 1, 7, 2, 10, 3);
        finds(due, 0, 5000, 2, 1, 1, 1);
    }

    /** "the one with the least bottom": a whole number is just not, and just, between. */
    private static void leastBottom(Due due) {
        finds(due, 4999, 5000, 1, 1, 5000, 5001);
        finds(due, 4999, 5000, 5000, 4999, 1, 1);
        finds(due, 1, 1, 5000, 4999, 5001, 5000);
        finds(due, 2499, 5000, 2500, 4999, 1, 2);
        finds(due, 1, 2, 2500, 4999, 2501, 5001);
    }

    /** "of these the one with the least top": there are many whole numbers between. */
    private static void leastTop(Due due) {
        finds(due, 0, 1, 5000, 1, 1, 1);
        finds(due, 1, 1, 5000, 1, 2, 1);
        finds(due, 4997, 1, 5000, 1, 4998, 1);
        finds(due, 4998, 1, 5000, 1, 4999, 1);
        finds(due, 4999, 5000, 5000, 1, 1, 1);
        // 3 / 5 and 4 / 5 have one bottom, but 2 / 3 is the one with the least; 7 / 3 comes before 8 / 3.
        finds(due, 11, 20, 17, 20, 2, 3);
        finds(due, 21, 10, 249, 100, 7, 3);
    }

    /** "is at hand": with the largest numbers that can be found, above 5000. */
    private static void largestFound(Due due) {
        finds(due, 4998, 4999, 4999, 5000, 9997, 9999);
        finds(due, 5000, 4999, 4999, 4998, 9999, 9997);
        finds(due, 4999, 1, 5000, 1, 9999, 2);
        finds(due, 0, 1, 1, 5000, 1, 5001);
        finds(due, 1, 5000, 1, 4999, 2, 9999);
    }

    /** "0, and nothing is changed, when p / q is not below r / s": the same one, and one below. */
    private static void notBelow(Due due) {
        stays(due, 1, 1, 1, 1);
        stays(due, 1, 2, 2, 4);
        stays(due, 2500, 5000, 1, 2);
        stays(due, 5000, 5000, 1, 1);
        stays(due, 0, 1, 0, 1);
        stays(due, 0, 1, 0, 5000);
        stays(due, 0, 5000, 0, 1);
        stays(due, 5000, 1, 5000, 1);
        stays(due, 5000, 1, 0, 1);
        stays(due, 1, 1, 0, 1);
        stays(due, 1, 5000, 0, 1);
        stays(due, 1, 4999, 1, 5000);
        stays(due, 4999, 5000, 4998, 4999);
        stays(due, 5000, 4999, 1, 1);
    }

    /** "when p / q is not below r / s": below by as little as can be is below. */
    private static void justBelow(Due due) {
        finds(due, 4998, 4999, 4999, 5000, 9997, 9999);
        finds(due, 1, 5000, 1, 4999, 2, 9999);
        finds(due, 1, 1, 5000, 4999, 5001, 5000);
        finds(due, 0, 1, 1, 5000, 1, 5001);
        finds(due, 0, 5000, 1, 5000, 1, 5001);
    }

    /** "IllegalArgumentException when a top is not 0 .. 5000", below. */
    private static void topTooSmall(Due due) {
        for (int top : new int[] {-1, Edge.LEAST_INT}) {
            refused(due, top, 1, 1, 1);
            refused(due, 0, 1, top, 1);
            refused(due, top, 5000, 5000, 1);
        }
        finds(due, 0, 1, 1, 1, 1, 2);
        stays(due, 0, 1, 0, 1);
    }

    /** "IllegalArgumentException when a top is not 0 .. 5000", above. */
    private static void topTooLarge(Due due) {
        for (int top : new int[] {5001, 100000, Edge.MOST_INT}) {
            refused(due, top, 1, 1, 1);
            refused(due, 0, 1, top, 1);
            refused(due, 0, 1, top, 5000);
        }
        finds(due, 0, 1, 5000, 1, 1, 1);
        finds(due, 4999, 5000, 5000, 5000, 5000, 5001);
        stays(due, 5000, 1, 1, 1);
    }

    /** "a bottom not 1 .. 5000", below. */
    private static void bottomTooSmall(Due due) {
        for (int bottom : new int[] {0, -1, Edge.LEAST_INT}) {
            refused(due, 0, bottom, 1, 1);
            refused(due, 1, bottom, 2, 1);
            refused(due, 0, 1, 1, bottom);
            refused(due, 0, 1, 0, bottom);
        }
        finds(due, 0, 1, 1, 1, 1, 2);
    }

    /** "a bottom not 1 .. 5000", above. */
    private static void bottomTooLarge(Due due) {
        for (int bottom : new int[] {5001, 100000, Edge.MOST_INT}) {
            refused(due, 0, bottom, 1, 1);
            refused(due, 1, bottom, 2, 1);
            refused(due, 0, 1, 1, bottom);
            refused(due, 0, 1, 0, bottom);
        }
        finds(due, 0, 5000, 1, 5000, 1, 5001);
    }

    /** The exception comes before the 0: what is out of bounds is not compared. */
    private static void wrongAndNotBelow(Due due) {
        refused(due, 1, 1, -1, 1);
        refused(due, 5001, 1, 1, 1);
        refused(due, 1, 1, 1, 0);
        refused(due, 5001, 5001, 5001, 5001);
        refused(due, -1, -1, -1, -1);
        refused(due, 0, 0, 0, 0);
    }
}
