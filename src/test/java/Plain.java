import java.util.ArrayList;
import java.util.List;

/**
 * The document word for word, by going through everything: slow, and written without any of the
 * shortcuts of SternDesk, so that both can be compared.
 */
final class Plain {
    static final int NONE = -1;
    static final int[] EDGES = {Integer.MIN_VALUE, Integer.MIN_VALUE + 1, -100001, -2, -1, 0, 1, 2, 3, 4, 5,
        30, 31, 32, 33, 34, 199, 200, 201, 999, 1000, 1001, 4999, 5000, 5001, 99999, 100000, 100001,
        Integer.MAX_VALUE - 1, Integer.MAX_VALUE};

    private static final int[][][] ROWS = new int[201][][];

    int top = 1;
    int bottom = 1;

    static SternDesk deskWith(int p, int q) {
        SternDesk desk = new SternDesk();
        desk.take(p, q);
        return desk;
    }

    static Plain with(int p, int q) {
        Plain plain = new Plain();
        plain.take(p, q);
        return plain;
    }

    static int gcd(int a, int b) {
        return b == 0 ? a : gcd(b, a % b);
    }

    static boolean mayTake(int p, int q) {
        return p >= 0 && p <= 100000 && q >= 1 && q <= 100000;
    }

    void take(int p, int q) {
        int g = gcd(p, q);
        top = p / g;
        bottom = q / g;
    }

    int part(int what) {
        return what == 0 ? top : what == 1 ? bottom : NONE;
    }

    List<Integer> allTerms() {
        List<Integer> all = new ArrayList<>();
        int over = top;
        int under = bottom;
        while (true) {
            all.add(over / under);
            int left = over % under;
            if (left == 0) {
                return all;
            }
            over = under;
            under = left;
        }
    }

    int terms() {
        return allTerms().size();
    }

    int term(int i) {
        List<Integer> all = allTerms();
        return i >= 0 && i < all.size() ? all.get(i) : NONE;
    }

    int convergent(int i, int what) {
        List<Integer> all = allTerms();
        if (i < 0 || i >= all.size()) {
            return NONE;
        }
        int over = all.get(i);
        int under = 1;
        for (int j = i - 1; j >= 0; j--) {
            int next = all.get(j) * over + under;
            under = over;
            over = next;
        }
        return Plain.with(over, under).part(what);
    }

    /** The way to the fraction, a step an element: 0 to the left, 1 to the right; null for 0. */
    List<Integer> allSteps() {
        return top == 0 ? null : steps(new int[] {0, 1, 1, 0});
    }

    /** Walks from the top of the tree; ends are the fractions it then stands between. */
    private List<Integer> steps(int[] ends) {
        List<Integer> all = new ArrayList<>();
        int a = 1;
        int b = 1;
        while (a != top || b != bottom) {
            boolean left = (long) top * b < (long) a * bottom;
            all.add(left ? 0 : 1);
            ends[left ? 2 : 0] = a;
            ends[left ? 3 : 1] = b;
            a = ends[0] + ends[2];
            b = ends[1] + ends[3];
        }
        return all;
    }

    List<Integer> allRuns() {
        List<Integer> all = new ArrayList<>();
        List<Integer> steps = allSteps();
        for (int i = 0; steps != null && i < steps.size(); i++) {
            int one = steps.get(i) == 1 ? 1 : -1;
            int last = all.size() - 1;
            if (i > 0 && steps.get(i).equals(steps.get(i - 1))) {
                all.set(last, all.get(last) + one);
            } else {
                all.add(one);
            }
        }
        return all;
    }

    int way(int what) {
        if (top == 0) {
            return NONE;
        }
        return what == 0 ? allSteps().size() : what == 1 ? allRuns().size() : NONE;
    }

    int run(int i) {
        List<Integer> all = allRuns();
        return i >= 0 && i < all.size() ? all.get(i) : 0;
    }

    int go(int side, int n) {
        if (side < 0 || side > 1 || n < 0 || n > 100000 || top == 0) {
            return 0;
        }
        int[] ends = {0, 1, 1, 0};
        steps(ends);
        int a = top;
        int b = bottom;
        for (int i = 0; i < n; i++) {
            a += side == 0 ? ends[0] : ends[2];
            b += side == 0 ? ends[1] : ends[3];
            if (a > 100000 || b > 100000) {
                return 0;
            }
        }
        top = a;
        bottom = b;
        return 1;
    }

    int up() {
        if (top == 0 || top == bottom) {
            return 0;
        }
        int[] ends = {0, 1, 1, 0};
        steps(ends);
        // The step before is the later one of the two ends, which has the larger numbers.
        boolean lower = ends[0] + ends[1] > ends[2] + ends[3];
        top = lower ? ends[0] : ends[2];
        bottom = lower ? ends[1] : ends[3];
        return 1;
    }

    static boolean mayNear(int n, int way, int what) {
        return n >= 1 && n <= 1000 && way >= 0 && way <= 2 && what >= 0 && what <= 1;
    }

    int near(int n, int way, int what) {
        long bestTop = -1;
        long bestBottom = 1;
        for (long b = 1; b <= n; b++) {
            long a = top * b / bottom;
            for (long c = a; c <= a + 1; c++) {
                boolean allowed = way == 2 || (way == 0 ? c * bottom <= top * b : c * bottom >= top * b);
                // Bottoms and tops grow here, so of two as near the first one stays.
                if (allowed && (bestTop < 0 || isNearer(c, b, bestTop, bestBottom))) {
                    bestTop = c;
                    bestBottom = b;
                }
            }
        }
        return (int) (what == 0 ? bestTop : bestBottom);
    }

    private boolean isNearer(long a, long b, long c, long d) {
        return Math.abs(a * bottom - top * b) * d < Math.abs(c * bottom - top * d) * b;
    }

    static boolean mayBetween(int p, int q, int r, int s) {
        return p >= 0 && p <= 5000 && q >= 1 && q <= 5000 && r >= 0 && r <= 5000 && s >= 1 && s <= 5000;
    }

    int between(int p, int q, int r, int s) {
        if (p * s >= r * q) {
            return 0;
        }
        for (long b = 1; true; b++) {
            long a = p * b / q + 1;
            if (a * s < r * b) {
                top = (int) a;
                bottom = (int) b;
                return 1;
            }
        }
    }

    static int[][] allOfRow(int n) {
        if (ROWS[n] == null) {
            List<int[]> all = new ArrayList<>();
            for (int b = 1; b <= n; b++) {
                for (int a = 0; a <= b; a++) {
                    if (gcd(a, b) == 1) {
                        all.add(new int[] {a, b});
                    }
                }
            }
            all.sort((x, y) -> Integer.compare(x[0] * y[1], y[0] * x[1]));
            ROWS[n] = all.toArray(new int[0][]);
        }
        return ROWS[n];
    }

    static boolean isRow(int n) {
        return n >= 1 && n <= 200;
    }

    int row(int n) {
        return isRow(n) ? allOfRow(n).length : NONE;
    }

    int pick(int n, int k) {
        if (!isRow(n) || k < 0 || k >= row(n)) {
            return 0;
        }
        top = allOfRow(n)[k][0];
        bottom = allOfRow(n)[k][1];
        return 1;
    }

    int place(int n) {
        if (!isRow(n)) {
            return NONE;
        }
        int count = 0;
        for (int[] one : allOfRow(n)) {
            if ((long) one[0] * bottom < (long) top * one[1]) {
                count++;
            }
        }
        return count;
    }

    long floors(int n) {
        if (n < 0 || n > 100000) {
            return NONE;
        }
        long sum = 0;
        for (long i = 0; i < n; i++) {
            sum += i * top / bottom;
        }
        return sum;
    }

    long sawteeth() {
        long q = bottom;
        // Each factor is taken 2 q times, so that it is whole.
        long sum = 0;
        for (long i = 1; i < q; i++) {
            sum += (2 * i - q) * (2 * (i * top % q) - q);
        }
        if (sum * 3 % (2 * q) != 0) {
            throw new IllegalStateException("no whole number");
        }
        return sum * 3 / (2 * q);
    }
}
