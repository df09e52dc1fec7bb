/** Promises 7 to 10: way, run, go, up. */
public final class TreeTest {
    public static void main(String[] args) {
        Due due = new Due();
        written(due);
        for (int p = 0; p <= 40; p++) {
            for (int q = 1; q <= 40; q++) {
                compareWay(due, p, q);
                compareMoves(due, p, q);
            }
        }
        for (int i = 0; i < 200; i++) {
            int p = (int) (i * 7919L % 100001);
            int q = (int) (i * 104729L % 100000) + 1;
            compareWay(due, p, q);
            compareMoves(due, p, q);
        }
        limits(due);
        wrong(due);
        due.end();
    }

    private static void written(Due due) {
        SternDesk desk = Plain.deskWith(355, 113);
        int[] runs = {3, -7, 15, 0};
        due.is("355 / 113: way(0)", desk.way(0), 25);
        due.is("355 / 113: way(1)", desk.way(1), 3);
        for (int i = 0; i < runs.length; i++) {
            due.is("355 / 113: run(" + i + ")", desk.run(i), runs[i]);
        }
        SternDesk third = Plain.deskWith(1, 3);
        due.is("1 / 3: way(0)", third.way(0), 2);
        due.is("1 / 3: way(1)", third.way(1), 1);
        due.is("1 / 3: run(0)", third.run(0), -2);
        due.is("1 / 3: run(1)", third.run(1), 0);
        SternDesk one = new SternDesk();
        due.is("1: way(0)", one.way(0), 0);
        due.is("1: way(1)", one.way(1), 0);
        due.is("1: run(0)", one.run(0), 0);
        due.is("1: up()", one.up(), 0);
        due.atHand("1: up()", one, 1, 1);
        due.is("1: go(0, 1)", one.go(0, 1), 1);
        due.atHand("1: go(0, 1)", one, 1, 2);
        due.is("1 / 2: go(1, 2)", one.go(1, 2), 1);
        due.atHand("1 / 2: go(1, 2)", one, 3, 4);
        due.is("3 / 4: up()", one.up(), 1);
        due.atHand("3 / 4: up()", one, 2, 3);
    }

    private static void compareWay(Due due, int p, int q) {
        SternDesk desk = Plain.deskWith(p, q);
        Plain plain = Plain.with(p, q);
        String name = p + " / " + q + ": ";
        int runs = plain.way(1);
        due.is(name + "way(0)", desk.way(0), plain.way(0));
        due.is(name + "way(1)", desk.way(1), runs);
        for (int i = -1; i <= runs + 1; i++) {
            due.is(name + "run(" + i + ")", desk.run(i), plain.run(i));
        }
    }

    private static void compareMoves(Due due, int p, int q) {
        int[] counts = {0, 1, 2, 3, 7, 100, 100000};
        for (int side = 0; side <= 1; side++) {
            for (int n : counts) {
                SternDesk desk = Plain.deskWith(p, q);
                Plain plain = Plain.with(p, q);
                String call = p + " / " + q + ": go(" + side + ", " + n + ")";
                due.is(call, desk.go(side, n), plain.go(side, n));
                due.atHand(call, desk, plain.top, plain.bottom);
            }
        }
        SternDesk desk = Plain.deskWith(p, q);
        Plain plain = Plain.with(p, q);
        String call = p + " / " + q + ": up()";
        due.is(call, desk.up(), plain.up());
        due.atHand(call, desk, plain.top, plain.bottom);
    }

    private static void limits(Due due) {
        move(due, 1, 1, 1, 99999, 100000, 1);
        move(due, 1, 1, 0, 99999, 1, 100000);
        move(due, 1, 1, 1, 100000, 0, 0);
        move(due, 1, 1, 0, 100000, 0, 0);
        move(due, 50000, 1, 0, 1, 99999, 2);
        move(due, 50001, 1, 0, 1, 0, 0);
        move(due, 1, 50000, 1, 1, 2, 99999);
        move(due, 1, 50001, 1, 1, 0, 0);
        move(due, 100000, 1, 1, 0, 100000, 1);
        move(due, 100000, 1, 1, 1, 0, 0);
        move(due, 99999, 1, 1, 1, 100000, 1);
        move(due, 1, 99999, 0, 1, 1, 100000);
        move(due, 49999, 100000, 0, 100000, 0, 0);
        move(due, 100000, 99999, 1, 100000, 0, 0);
    }

    /** A top 0 is due where nothing is to be changed. */
    private static void move(Due due, int p, int q, int side, int n, int top, int bottom) {
        SternDesk desk = Plain.deskWith(p, q);
        String call = p + " / " + q + ": go(" + side + ", " + n + ")";
        due.is(call, desk.go(side, n), top == 0 ? 0 : 1);
        due.atHand(call, desk, top == 0 ? p : top, top == 0 ? q : bottom);
    }

    private static void wrong(Due due) {
        for (int edge : Plain.EDGES) {
            SternDesk desk = Plain.deskWith(46368, 75025);
            desk.take(8, 5);
            SternDesk zero = Plain.deskWith(0, 3);
            due.is("8 / 5: is way(" + edge + ") NONE", desk.way(edge) == -1 ? 1 : 0, edge == 0 || edge == 1 ? 0 : 1);
            due.is("0: way(" + edge + ")", zero.way(edge), -1);
            due.is("8 / 5: run(" + edge + ")", desk.run(edge), Plain.with(8, 5).run(edge));
            due.is("0: run(" + edge + ")", zero.run(edge), 0);
            for (int n : Plain.EDGES) {
                wrongGo(due, edge, n);
            }
        }
        SternDesk zero = Plain.deskWith(0, 1);
        due.is("0: up()", zero.up(), 0);
        due.atHand("0: up()", zero, 0, 1);
    }

    private static void wrongGo(Due due, int side, int n) {
        String call = "go(" + side + ", " + n + ")";
        SternDesk zero = Plain.deskWith(0, 9);
        due.is("0: " + call, zero.go(side, n), 0);
        due.atHand("0: " + call, zero, 0, 1);
        SternDesk desk = Plain.deskWith(8, 5);
        Plain plain = Plain.with(8, 5);
        due.is("8 / 5: " + call, desk.go(side, n), plain.go(side, n));
        due.atHand("8 / 5: " + call, desk, plain.top, plain.bottom);
    }
}
