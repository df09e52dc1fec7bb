/** Promise 11 at its boundaries; above each test stands the document's sentence. */
public final class NearEdgesTest {
    public static void main(String[] args) {
        Due due = new Due();
        bottomNotAbove(due);
        fromZeroOn(due);
        itself(due);
        lesserBottom(due);
        lesserOne(due);
        besideTheMiddle(due);
        boundTooSmall(due);
        boundTooLarge(due);
        noSuchWay(due);
        noSuchWhat(due);
        due.end();
    }

    private static void near(Due due, int p, int q, int n, int way, int top, int bottom) {
        Edge edge = Edge.with(due, p, q);
        String call = "near(" + n + ", " + way + ", ";
        edge.tells(call + "0)", desk -> desk.near(n, way, 0), top);
        edge.tells(call + "1)", desk -> desk.near(n, way, 1), bottom);
    }

    private static void allWays(Due due, int p, int q, int n, int... found) {
        for (int way = 0; way < 3; way++) {
            near(due, p, q, n, way, found[2 * way], found[2 * way + 1]);
        }
    }

    private static void refused(Due due, int n, int way, int what) {
        for (Edge edge : Edge.withAll(due)) {
            edge.refuses("near(" + n + ", " + way + ", " + what + ")", desk -> desk.near(n, way, what));
        }
    }

    /** "whose bottom is not above n": n at the bottom of the one at hand, and one below it. */
    private static void bottomNotAbove(Due due) {
        allWays(due, 355, 113, 113, 355, 113, 355, 113, 355, 113);
        allWays(due, 355, 113, 112, 333, 106, 22, 7, 333, 106);
        allWays(due, 355, 113, 106, 333, 106, 22, 7, 333, 106);
        allWays(due, 355, 113, 105, 311, 99, 22, 7, 311, 99);
        allWays(due, 1, 1000, 1000, 1, 1000, 1, 1000, 1, 1000);
        allWays(due, 1, 1000, 999, 0, 1, 1, 999, 1, 999);
        allWays(due, 999, 1000, 1000, 999, 1000, 999, 1000, 999, 1000);
        allWays(due, 1, 1001, 1000, 0, 1, 1, 1000, 1, 1000);
    }

    /** "Of all fractions (from 0 on)": 0 is one of them, and nothing is below it. */
    private static void fromZeroOn(Due due) {
        for (int n : new int[] {1, 2, 999, 1000}) {
            allWays(due, 0, 1, n, 0, 1, 0, 1, 0, 1);
            allWays(due, 1, 100000, n, 0, 1, 1, n, 0, 1);
        }
        allWays(due, 100000, 99999, 1, 1, 1, 2, 1, 1, 1);
        allWays(due, 99999, 2, 1, 49999, 1, 50000, 1, 49999, 1);
    }

    /** "not above the one at hand", "not below it": one that is at hand is both. */
    private static void itself(Due due) {
        for (int n : new int[] {1, 2, 1000}) {
            allWays(due, 1, 1, n, 1, 1, 1, 1, 1, 1);
            allWays(due, 100000, 1, n, 100000, 1, 100000, 1, 100000, 1);
        }
        allWays(due, 1, 2, 2, 1, 2, 1, 2, 1, 2);
        allWays(due, 1, 2, 1, 0, 1, 1, 1, 0, 1);
        allWays(due, 99999, 100000, 1000, 999, 1000, 1, 1, 1, 1);
        allWays(due, 100000, 99999, 1000, 1, 1, 1001, 1000, 1, 1);
    }

    /** "of two the one with the lesser bottom": once the lower, once the upper one. */
    private static void lesserBottom(Due due) {
        near(due, 1, 4, 2, 2, 0, 1);
        near(due, 3, 4, 2, 2, 1, 1);
        near(due, 5, 12, 3, 2, 1, 2);
        near(due, 7, 12, 3, 2, 1, 2);
        near(due, 1, 2000, 1000, 2, 0, 1);
        near(due, 1999, 2000, 1000, 2, 1, 1);
        near(due, 2001, 2000, 1000, 2, 1, 1);
    }

    /** "then the lesser one": two as near with one bottom are whole numbers. */
    private static void lesserOne(Due due) {
        near(due, 1, 2, 1, 2, 0, 1);
        near(due, 3, 2, 1, 2, 1, 1);
        near(due, 99999, 2, 1, 2, 49999, 1);
    }

    /** "the nearest to it": just below and just above the middle between two. */
    private static void besideTheMiddle(Due due) {
        near(due, 49999, 100000, 1, 2, 0, 1);
        near(due, 50000, 99999, 1, 2, 1, 1);
        near(due, 24999, 100000, 2, 2, 0, 1);
        near(due, 25001, 100000, 2, 2, 1, 2);
        near(due, 74999, 100000, 2, 2, 1, 2);
        near(due, 75001, 100000, 2, 2, 1, 1);
        near(due, 1, 1999, 1000, 2, 1, 1000);
        near(due, 1, 2001, 1000, 2, 0, 1);
    }

    /** "IllegalArgumentException when n is not 1 .. 1000", below: not even for a whole number at hand. */
    private static void boundTooSmall(Due due) {
        for (int n : new int[] {0, -1, Edge.LEAST_INT}) {
            for (int way = 0; way < 3; way++) {
                refused(due, n, way, 0);
                refused(due, n, way, 1);
            }
        }
        allWays(due, 355, 113, 1, 3, 1, 4, 1, 3, 1);
    }

    /** "IllegalArgumentException when n is not 1 .. 1000", above. */
    private static void boundTooLarge(Due due) {
        for (int n : new int[] {1001, 100000, Edge.MOST_INT}) {
            for (int way = 0; way < 3; way++) {
                refused(due, n, way, 0);
                refused(due, n, way, 1);
            }
        }
        allWays(due, 46368, 75025, 1000, 377, 610, 610, 987, 610, 987);
    }

    /** "or there is no such way" */
    private static void noSuchWay(Due due) {
        for (int way : new int[] {Edge.LEAST_INT, -1, 3, Edge.MOST_INT}) {
            for (int n : new int[] {0, 1, 1000, 1001}) {
                refused(due, n, way, 0);
                refused(due, n, way, 1);
            }
        }
    }

    /** "or what" */
    private static void noSuchWhat(Due due) {
        for (int what : new int[] {Edge.LEAST_INT, -1, 2, Edge.MOST_INT}) {
            for (int way = -1; way <= 3; way++) {
                refused(due, 1, way, what);
                refused(due, 1000, way, what);
            }
        }
    }
}
