import java.util.Random;

/** All promises together: runs of 512 calls on one object, compared with the plain one call by call. */
public final class LongRunsTest {
    private static final int RUNS = 150;
    private static final int CALLS = 512;

    private final Due due;
    private final Random random;
    private final SternDesk desk = new SternDesk();
    private final Plain plain = new Plain();
    private String last = "new";

    private LongRunsTest(Due due, long seed) {
        this.due = due;
        this.random = new Random(seed);
    }

    public static void main(String[] args) {
        Due due = new Due();
        for (int i = 0; i < RUNS; i++) {
            new LongRunsTest(due, i).run();
        }
        due.end();
    }

    private void run() {
        for (int i = 0; i < CALLS; i++) {
            String before = plain.top + " / " + plain.bottom + ", after " + last + ": ";
            call(random.nextInt(18), before);
        }
    }

    private void call(int which, String before) {
        switch (which) {
            case 0 -> take(before);
            case 1 -> between(before);
            case 2 -> near(before);
            case 3 -> tell(before, "part", random.nextInt(4) - 1);
            case 4 -> compare(before, "terms()", desk.terms(), plain.terms());
            case 5 -> tell(before, "term", random.nextInt(27) - 1);
            case 6 -> convergent(before);
            case 7 -> tell(before, "way", random.nextInt(4) - 1);
            case 8 -> tell(before, "run", random.nextInt(27) - 1);
            case 9, 10 -> go(before);
            case 11 -> compare(before, "up()", desk.up(), plain.up());
            case 12 -> tell(before, "row", random.nextInt(203));
            case 13 -> pick(before);
            case 14 -> tell(before, "place", random.nextInt(203));
            case 15 -> tell(before, "floors", size(100002) - 1);
            case 16 -> compare(before, "sawteeth()", desk.sawteeth(), plain.sawteeth());
            default -> compare(before, "check()", desk.check(), 1);
        }
    }

    /** Small and large numbers alike, from 0 to below the bound. */
    private int size(int bound) {
        return random.nextInt(1 + random.nextInt(random.nextBoolean() ? bound : Math.min(bound, 50)));
    }

    private void compare(String before, String call, long got, long want) {
        due.is(before + call, got, want);
        last = call;
    }

    private void tell(String before, String name, int n) {
        String call = name + "(" + n + ")";
        switch (name) {
            case "part" -> compare(before, call, desk.part(n), plain.part(n));
            case "term" -> compare(before, call, desk.term(n), plain.term(n));
            case "way" -> compare(before, call, desk.way(n), plain.way(n));
            case "run" -> compare(before, call, desk.run(n), plain.run(n));
            case "row" -> compare(before, call, desk.row(n), plain.row(n));
            case "place" -> compare(before, call, desk.place(n), plain.place(n));
            default -> compare(before, call, desk.floors(n), plain.floors(n));
        }
    }

    private void take(String before) {
        int p = size(100003) - 1;
        int q = size(100002);
        String call = "take(" + p + ", " + q + ")";
        if (Plain.mayTake(p, q)) {
            desk.take(p, q);
            plain.take(p, q);
            last = call;
        } else {
            due.refused(before + call, () -> desk.take(p, q));
        }
    }

    private void between(String before) {
        int p = size(5003) - 1;
        int q = size(5002);
        int r = size(5003) - 1;
        int s = size(5002);
        String call = "between(" + p + ", " + q + ", " + r + ", " + s + ")";
        if (Plain.mayBetween(p, q, r, s)) {
            compare(before, call, desk.between(p, q, r, s), plain.between(p, q, r, s));
        } else {
            due.refused(before + call, () -> desk.between(p, q, r, s));
        }
    }

    private void near(String before) {
        int n = size(1002);
        boolean mayBeWrong = random.nextInt(5) == 0;
        int way = mayBeWrong ? random.nextInt(5) - 1 : random.nextInt(3);
        int what = mayBeWrong ? random.nextInt(4) - 1 : random.nextInt(2);
        String call = "near(" + n + ", " + way + ", " + what + ")";
        if (Plain.mayNear(n, way, what)) {
            compare(before, call, desk.near(n, way, what), plain.near(n, way, what));
        } else {
            due.refused(before + call, () -> desk.near(n, way, what));
        }
    }

    private void convergent(String before) {
        int i = random.nextInt(27) - 1;
        int what = random.nextInt(4) - 1;
        compare(before, "convergent(" + i + ", " + what + ")", desk.convergent(i, what), plain.convergent(i, what));
    }

    private void go(String before) {
        int side = random.nextInt(5) == 0 ? random.nextInt(4) - 1 : random.nextInt(2);
        int n = size(random.nextBoolean() ? 10 : 100003) - random.nextInt(2);
        compare(before, "go(" + side + ", " + n + ")", desk.go(side, n), plain.go(side, n));
    }

    private void pick(String before) {
        int n = random.nextInt(203);
        int k = Plain.isRow(n) ? random.nextInt(plain.row(n) + 2) - 1 : 0;
        compare(before, "pick(" + n + ", " + k + ")", desk.pick(n, k), plain.pick(n, k));
    }
}
