/** Promises 16 to 18 at their boundaries; above each test stands the document's sentence. */
public final class SumsEdgesTest {
    public static void main(String[] args) {
        Due due = new Due();
        noParts(due);
        lastPartIsBeforeN(due);
        mostParts(due);
        noSuchNumber(due);
        noTeeth(due);
        halves(due);
        signs(due);
        largestTeeth(due);
        checks(due);
        due.end();
    }

    private static void floors(Due due, int p, int q, int n, long want) {
        Edge.with(due, p, q).tells("floors(" + n + ")", desk -> desk.floors(n), want);
    }

    private static void sawteeth(Due due, int p, int q, long want) {
        Edge.with(due, p, q).tells("sawteeth()", SternDesk::sawteeth, want);
    }

    /** "for i from 0 to n - 1": nothing for n = 0, and 0 for i = 0 alone. */
    private static void noParts(Due due) {
        for (int[] one : Edge.FRACTIONS) {
            floors(due, one[0], one[1], 0, 0);
            floors(due, one[0], one[1], 1, 0);
            floors(due, one[0], one[1], 2, one[0] / one[1]);
        }
    }

    /** "The sum of the greatest whole numbers in i times the fraction": i times it is just whole at i = q. */
    private static void lastPartIsBeforeN(Due due) {
        floors(due, 1, 2, 2, 0);
        floors(due, 1, 2, 3, 1);
        floors(due, 1, 100, 100, 0);
        floors(due, 1, 100, 101, 1);
        floors(due, 1, 99999, 99999, 0);
        floors(due, 1, 99999, 100000, 1);
        floors(due, 1, 100000, 100000, 0);
        floors(due, 99999, 100000, 2, 0);
        floors(due, 99999, 100000, 3, 1);
        floors(due, 100000, 99999, 3, 3);
    }

    /** "n is not 0 .. 100000": the most parts, with sums far above the largest int. */
    private static void mostParts(Due due) {
        floors(due, 0, 1, 100000, 0);
        floors(due, 1, 1, 99999, 4999850001L);
        floors(due, 1, 1, 100000, 4999950000L);
        floors(due, 100000, 1, 99999, 499985000100000L);
        floors(due, 100000, 1, 100000, 499995000000000L);
        floors(due, 99999, 100000, 100000, 4999850001L);
        floors(due, 100000, 99999, 100000, 4999950001L);
        floors(due, 1, 2, 100000, 2499950000L);
    }

    /** "NONE when n is not 0 .. 100000": whatever is at hand. */
    private static void noSuchNumber(Due due) {
        for (Edge edge : Edge.withAll(due)) {
            for (int n : new int[] {Edge.LEAST_INT, -100000, -1, 100001, Edge.MOST_INT}) {
                edge.tells("floors(" + n + ")", desk -> desk.floors(n), -1L);
            }
        }
    }

    /** "for all i from 1 to q - 1": there is none for whole numbers. */
    private static void noTeeth(Due due) {
        for (int p : new int[] {0, 1, 2, 99999, 100000}) {
            sawteeth(due, p, 1, 0);
        }
        due.is("new: sawteeth()", new SternDesk().sawteeth(), 0);
    }

    /** "are more than a half": with bottom 2 the one part is a half, no more and no less. */
    private static void halves(Due due) {
        sawteeth(due, 1, 2, 0);
        sawteeth(due, 3, 2, 0);
        sawteeth(due, 99999, 2, 0);
        // 1/4, 2/4 and 3/4 are less by a quarter, a half and more by a quarter: an eighth, times 24.
        sawteeth(due, 1, 4, 3);
        sawteeth(due, 3, 4, -3);
    }

    /** "(below it, less than 0)", and "less the greatest whole number in it" for those above 1. */
    private static void signs(Due due) {
        sawteeth(due, 1, 3, 1);
        sawteeth(due, 2, 3, -1);
        sawteeth(due, 4, 3, 1);
        sawteeth(due, 5, 3, -1);
        sawteeth(due, 100000, 3, 1);
        sawteeth(due, 99998, 3, -1);
        sawteeth(due, 1, 5, 6);
        sawteeth(due, 2, 5, 0);
        sawteeth(due, 3, 5, 0);
        sawteeth(due, 4, 5, -6);
    }

    /** "these together, times 6 q (a whole number)": the largest, (q - 1) (q - 2) / 2, and the least. */
    private static void largestTeeth(Due due) {
        sawteeth(due, 1, 100000, 4999850001L);
        sawteeth(due, 99999, 100000, -4999850001L);
        sawteeth(due, 1, 99999, 4999750003L);
        sawteeth(due, 100000, 99999, 4999750003L);
        sawteeth(due, 99998, 99999, -4999750003L);
    }

    /** "Whether the terms make the fraction again, ..: 1": a single convergent, no way, and the most of all. */
    private static void checks(Due due) {
        due.is("new: check()", new SternDesk().check(), 1);
        for (Edge edge : Edge.withAll(due)) {
            edge.tells("check()", SternDesk::check, 1);
        }
    }
}
