import java.util.function.ToLongFunction;

/** Calls at a boundary, each on a new object: what they answer, and what is at hand then. */
final class Edge {
    /** The least and the largest, 0, 1, what stands next to them, and the most terms. */
    static final int[][] FRACTIONS = {{0, 1}, {1, 1}, {1, 2}, {2, 1}, {355, 113}, {113, 355}, {46368, 75025},
        {75025, 46368}, {1, 100000}, {100000, 1}, {99999, 100000}, {100000, 99999}};

    static final int LEAST_INT = Integer.MIN_VALUE;
    static final int MOST_INT = Integer.MAX_VALUE;

    private final Due due;
    private final int top;
    private final int bottom;

    private Edge(Due due, int top, int bottom) {
        this.due = due;
        this.top = top;
        this.bottom = bottom;
    }

    /** The fraction, which must be in least terms, that is at hand before each call. */
    static Edge with(Due due, int top, int bottom) {
        return new Edge(due, top, bottom);
    }

    static Edge[] withAll(Due due) {
        Edge[] all = new Edge[FRACTIONS.length];
        for (int i = 0; i < all.length; i++) {
            all[i] = new Edge(due, FRACTIONS[i][0], FRACTIONS[i][1]);
        }
        return all;
    }

    private String named(String call) {
        return top + " / " + bottom + ": " + call;
    }

    /** The call answers so, and has changed nothing. */
    void tells(String call, ToLongFunction<SternDesk> made, long want) {
        SternDesk desk = Plain.deskWith(top, bottom);
        due.is(named(call), made.applyAsLong(desk), want);
        stands(call, desk, top, bottom);
    }

    /** The call throws IllegalArgumentException, and has changed nothing. */
    void refuses(String call, ToLongFunction<SternDesk> made) {
        SternDesk desk = Plain.deskWith(top, bottom);
        due.refused(named(call), () -> made.applyAsLong(desk));
        stands(call, desk, top, bottom);
    }

    /** The call answers 1, and another fraction is at hand. */
    void moves(String call, ToLongFunction<SternDesk> made, int newTop, int newBottom) {
        SternDesk desk = Plain.deskWith(top, bottom);
        due.is(named(call), made.applyAsLong(desk), 1);
        stands(call, desk, newTop, newBottom);
    }

    /** All that the object tells of the fraction at hand is as it is due for this one. */
    private void stands(String call, SternDesk desk, int p, int q) {
        Plain plain = Plain.with(p, q);
        String then = named(call) + ", then ";
        due.is(then + "part(0)", desk.part(0), p);
        due.is(then + "part(1)", desk.part(1), q);
        int terms = plain.terms();
        due.is(then + "terms()", desk.terms(), terms);
        for (int i = -1; i <= terms; i++) {
            due.is(then + "term(" + i + ")", desk.term(i), plain.term(i));
            due.is(then + "convergent(" + i + ", 0)", desk.convergent(i, 0), plain.convergent(i, 0));
            due.is(then + "convergent(" + i + ", 1)", desk.convergent(i, 1), plain.convergent(i, 1));
        }
        due.is(then + "check()", desk.check(), 1);
    }
}
