/** Promises 7 to 10 at their boundaries; above each test stands the document's sentence. */
public final class TreeEdgesTest {
    public static void main(String[] args) {
        Due due = new Due();
        topOfTree(due);
        wayOfZero(due);
        wayOfOne(due);
        longestWays(due);
        noSuchWhat(due);
        noSuchRun(due);
        sidesOfRuns(due);
        noSuchSide(due);
        noSuchNumberOfSteps(due);
        noStep(due);
        goFromZero(due);
        topTooLarge(due);
        bottomTooLarge(due);
        farTooLarge(due);
        upFromZeroAndOne(due);
        upBesideThem(due);
        due.end();
    }

    private static void goes(Due due, int p, int q, int side, int n, int top, int bottom) {
        Edge.with(due, p, q).moves("go(" + side + ", " + n + ")", desk -> desk.go(side, n), top, bottom);
    }

    private static void stays(Due due, int p, int q, int side, int n) {
        Edge.with(due, p, q).tells("go(" + side + ", " + n + ")", desk -> desk.go(side, n), 0);
    }

    /** "at its top stands 1 / 1, between 0 / 1 and 1 / 0" */
    private static void topOfTree(Due due) {
        goes(due, 1, 1, 0, 1, 1, 2);
        goes(due, 1, 1, 1, 1, 2, 1);
        goes(due, 1, 2, 0, 1, 1, 3);
        goes(due, 1, 2, 1, 1, 2, 3);
        goes(due, 2, 1, 0, 1, 3, 2);
        goes(due, 2, 1, 1, 1, 3, 1);
    }

    /** "NONE for 0": for each what; the least fraction above it has a way. */
    private static void wayOfZero(Due due) {
        for (int what : new int[] {Edge.LEAST_INT, -1, 0, 1, 2, Edge.MOST_INT}) {
            Edge.with(due, 0, 1).tells("way(" + what + ")", desk -> desk.way(what), -1);
        }
        way(due, 1, 100000, 99999, 1);
    }

    private static void way(Due due, int p, int q, int steps, int runs) {
        Edge.with(due, p, q).tells("way(0)", desk -> desk.way(0), steps);
        Edge.with(due, p, q).tells("way(1)", desk -> desk.way(1), runs);
    }

    /** "THE WAY to it goes from the top": no step and no run for 1, one for those below it. */
    private static void wayOfOne(Due due) {
        due.is("new: way(0)", new SternDesk().way(0), 0);
        due.is("new: way(1)", new SternDesk().way(1), 0);
        way(due, 1, 1, 0, 0);
        way(due, 1, 2, 1, 1);
        way(due, 2, 1, 1, 1);
    }

    /** "How many steps the way to it has (what 0), how many runs (1)": the most of both. */
    private static void longestWays(Due due) {
        way(due, 100000, 1, 99999, 1);
        way(due, 99999, 100000, 99999, 2);
        way(due, 100000, 99999, 99999, 2);
        way(due, 46368, 75025, 23, 23);
        way(due, 75025, 46368, 23, 23);
    }

    /** "or no such what" */
    private static void noSuchWhat(Due due) {
        for (Edge edge : Edge.withAll(due)) {
            for (int what : new int[] {Edge.LEAST_INT, -1, 2, Edge.MOST_INT}) {
                edge.tells("way(" + what + ")", desk -> desk.way(what), -1);
            }
        }
    }

    private static void runs(Due due, int p, int q, int... steps) {
        Edge edge = Edge.with(due, p, q);
        for (int i = 0; i < steps.length; i++) {
            int at = i;
            edge.tells("run(" + i + ")", desk -> desk.run(at), steps[i]);
        }
        int[] beside = {Edge.LEAST_INT, -1, steps.length, steps.length + 1, 32, 33, Edge.MOST_INT};
        for (int i : beside) {
            edge.tells("run(" + i + ")", desk -> desk.run(i), 0);
        }
    }

    /** "0 when there is none such": none at all for 0 and 1, else before the first and behind the last. */
    private static void noSuchRun(Due due) {
        runs(due, 0, 1);
        runs(due, 1, 1);
        runs(due, 355, 113, 3, -7, 15);
        runs(due, 113, 355, -3, 7, -15);
        int[] ones = new int[23];
        for (int i = 0; i < 23; i++) {
            ones[i] = i % 2 == 0 ? 1 : -1;
        }
        runs(due, 75025, 46368, ones);
        for (int i = 0; i < 23; i++) {
            ones[i] = -ones[i];
        }
        runs(due, 46368, 75025, ones);
    }

    /** "how many steps, minus as many for steps to the left" */
    private static void sidesOfRuns(Due due) {
        runs(due, 1, 2, -1);
        runs(due, 2, 1, 1);
        runs(due, 1, 100000, -99999);
        runs(due, 100000, 1, 99999);
        runs(due, 99999, 100000, -1, 99998);
        runs(due, 100000, 99999, 1, -99998);
    }

    /** "0, and nothing is changed, when there is no such side": also with no step to go. */
    private static void noSuchSide(Due due) {
        for (int[] one : Edge.FRACTIONS) {
            for (int side : new int[] {Edge.LEAST_INT, -1, 2, Edge.MOST_INT}) {
                stays(due, one[0], one[1], side, 0);
                stays(due, one[0], one[1], side, 1);
            }
        }
        // 355 / 113 stands between 333 / 106 and 22 / 7.
        goes(due, 355, 113, 0, 1, 688, 219);
        goes(due, 355, 113, 1, 1, 377, 120);
    }

    /** "n is not 0 .. 100000" */
    private static void noSuchNumberOfSteps(Due due) {
        for (int[] one : Edge.FRACTIONS) {
            for (int n : new int[] {Edge.LEAST_INT, -100000, -1, 100001, Edge.MOST_INT}) {
                stays(due, one[0], one[1], 0, n);
                stays(due, one[0], one[1], 1, n);
            }
        }
        // 100000 steps are allowed, but lead from no fraction to one that is not too large.
        stays(due, 1, 1, 0, 100000);
        stays(due, 1, 1, 1, 100000);
    }

    /** "n is not 0 .. 100000": 0 steps are allowed and lead to where it stands, also at the limits. */
    private static void noStep(Due due) {
        for (int[] one : Edge.FRACTIONS) {
            if (one[0] > 0) {
                goes(due, one[0], one[1], 0, 0, one[0], one[1]);
                goes(due, one[0], one[1], 1, 0, one[0], one[1]);
            }
        }
    }

    /** "0 is at hand", for steps that all others could go; not so for the least one above it. */
    private static void goFromZero(Due due) {
        for (int n : new int[] {0, 1, 2, 99999, 100000}) {
            stays(due, 0, 1, 0, n);
            stays(due, 0, 1, 1, n);
        }
        goes(due, 1, 100000, 0, 0, 1, 100000);
        goes(due, 1, 99999, 0, 1, 1, 100000);
    }

    /** "or top .. would be too large" */
    private static void topTooLarge(Due due) {
        goes(due, 1, 1, 1, 99999, 100000, 1);
        stays(due, 2, 1, 1, 99999);
        goes(due, 99999, 1, 1, 1, 100000, 1);
        stays(due, 100000, 1, 1, 1);
        stays(due, 99999, 1, 1, 2);
        goes(due, 50000, 1, 0, 1, 99999, 2);
        stays(due, 50001, 1, 0, 1);
        // 3 / 2 stands below 2 / 1, so each step to the right adds 2 above and 1 below.
        goes(due, 3, 2, 1, 49998, 99999, 50000);
        stays(due, 3, 2, 1, 49999);
        // 4 / 1 stands above 3 / 1.
        goes(due, 4, 1, 0, 33332, 100000, 33333);
        stays(due, 4, 1, 0, 33333);
    }

    /** "or .. bottom would be too large" */
    private static void bottomTooLarge(Due due) {
        goes(due, 1, 1, 0, 99999, 1, 100000);
        stays(due, 1, 2, 0, 99999);
        goes(due, 1, 99999, 0, 1, 1, 100000);
        stays(due, 1, 100000, 0, 1);
        stays(due, 1, 99999, 0, 2);
        goes(due, 1, 50000, 1, 1, 2, 99999);
        stays(due, 1, 50001, 1, 1);
        goes(due, 2, 3, 0, 49998, 50000, 99999);
        stays(due, 2, 3, 0, 49999);
        goes(due, 1, 4, 1, 33332, 33333, 100000);
        stays(due, 1, 4, 1, 33333);
    }

    /** "would be too large": by so much that ints wrap round to small numbers. */
    private static void farTooLarge(Due due) {
        stays(due, 65537, 1, 0, 65536);
        stays(due, 1, 65537, 1, 65536);
        stays(due, 65536, 1, 0, 65537);
        stays(due, 1, 65536, 1, 65537);
        stays(due, 99999, 100000, 0, 100000);
        stays(due, 99999, 100000, 1, 42950);
        stays(due, 100000, 99999, 0, 42950);
        stays(due, 100000, 99999, 1, 100000);
    }

    /** "0, and nothing is changed, for 0 and 1" */
    private static void upFromZeroAndOne(Due due) {
        Edge.with(due, 0, 1).tells("up()", SternDesk::up, 0);
        Edge.with(due, 1, 1).tells("up()", SternDesk::up, 0);
        SternDesk desk = new SternDesk();
        due.is("new: up()", desk.up(), 0);
        due.atHand("new: up()", desk, 1, 1);
    }

    /** "Goes one step back: 1": from what stands next to 0 and 1, and from the largest. */
    private static void upBesideThem(Due due) {
        int[][] steps = {{1, 2, 1, 1}, {2, 1, 1, 1}, {1, 3, 1, 2}, {3, 1, 2, 1}, {2, 3, 1, 2}, {3, 2, 2, 1},
            {1, 100000, 1, 99999}, {100000, 1, 99999, 1}, {99999, 100000, 99998, 99999},
            {100000, 99999, 99999, 99998}, {46368, 75025, 28657, 46368}, {75025, 46368, 46368, 28657}};
        for (int[] step : steps) {
            Edge.with(due, step[0], step[1]).moves("up()", SternDesk::up, step[2], step[3]);
        }
    }
}
