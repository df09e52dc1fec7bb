/**
 * One fraction at hand, and exact answers about it: terms, convergents, its place in the tree,
 * near fractions, rows of fractions and sums. ../shared/DOC.md numbers the promises.
 */
public final class SternDesk {
    public static final int NONE = -1;

    private static final int MOST = 100000;
    private static final int MOST_NEAR = 1000;
    private static final int MOST_BETWEEN = 5000;
    private static final int MOST_ROW = 200;

    // Numbers up to 100000 give 24 terms at most: 46368 / 75025 has the most.
    private static final int MOST_TERMS = 32;

    // Every loop that divides again and again, or halves, ends long before this.
    private static final int ROUNDS = 64;

    private final Expansion hand;
    private final Rows rows;

    /** Promise 1. */
    public SternDesk() {
        hand = new Expansion();
        rows = new Rows();
        hand.expand(1, 1);
    }

    /** Promise 2. */
    public void take(int p, int q) throws IllegalArgumentException {
        if (!isWithin(p, 0, MOST) || !isWithin(q, 1, MOST)) {
            throw new IllegalArgumentException("top must be 0 .. 100000, bottom 1 .. 100000");
        }
        hand.expand(p, q);
    }

    /** Promise 3. */
    public int part(int what) {
        return topOrBottom(what, hand.top(), hand.bottom());
    }

    /** Promise 4. */
    public int terms() {
        return hand.count;
    }

    /** Promise 5. */
    public int term(int i) {
        return isTerm(i) ? hand.quotients[i] : NONE;
    }

    /** Promise 6. */
    public int convergent(int i, int what) {
        return isTerm(i) ? topOrBottom(what, hand.tops[i + 1], hand.bottoms[i + 1]) : NONE;
    }

    /** Promise 7. */
    public int way(int what) {
        if (hand.top() == 0) {
            return NONE;
        }
        return topOrBottom(what, hand.countSteps(), hand.countRuns());
    }

    /** Promise 8. */
    public int run(int i) {
        return i >= 0 && i < hand.countRuns() ? hand.stepsOfRun(i) : 0;
    }

    /** Promise 9. */
    public int go(int side, int n) {
        if (!isWithin(side, 0, 1) || !isWithin(n, 0, MOST) || hand.top() == 0) {
            return 0;
        }
        // All steps to one side add the same neighbour, so the last fraction is the largest.
        Fraction neighbour = hand.neighbourAt(side);
        long top = hand.top() + (long) n * neighbour.top;
        long bottom = hand.bottom() + (long) n * neighbour.bottom;
        if (top > MOST || bottom > MOST) {
            return 0;
        }
        hand.expand((int) top, (int) bottom);
        return 1;
    }

    /** Promise 10. */
    public int up() {
        if (hand.countRuns() == 0) {
            return 0;
        }
        // One step less is a last term less by 1: the convergent before is added once less.
        hand.expand(hand.top() - hand.topBefore(), hand.bottom() - hand.bottomBefore());
        return 1;
    }

    /** Promise 11. */
    public int near(int n, int way, int what) throws IllegalArgumentException {
        if (!isWithin(n, 1, MOST_NEAR) || !isWithin(way, 0, 2) || !isWithin(what, 0, 1)) {
            throw new IllegalArgumentException("n must be 1 .. 1000, way 0 .. 2, what 0 or 1");
        }
        if (hand.bottom() <= n) {
            return part(what);
        }
        Fraction found = hand.nearWithin(n, way);
        return topOrBottom(what, found.top, found.bottom);
    }

    /** Promise 12. */
    public int between(int p, int q, int r, int s) throws IllegalArgumentException {
        if (!isWithin(p, 0, MOST_BETWEEN) || !isWithin(q, 1, MOST_BETWEEN)
                || !isWithin(r, 0, MOST_BETWEEN) || !isWithin(s, 1, MOST_BETWEEN)) {
            throw new IllegalArgumentException("tops must be 0 .. 5000, bottoms 1 .. 5000");
        }
        if (p * s >= r * q) {
            return 0;
        }
        hand.expandSimplest(p, q, r, s);
        return 1;
    }

    /** Promise 13. */
    public int row(int n) {
        return isWithin(n, 1, MOST_ROW) ? rows.countAll(n) : NONE;
    }

    /** Promise 14. */
    public int pick(int n, int k) {
        if (!isWithin(n, 1, MOST_ROW) || k < 0 || k >= rows.countAll(n)) {
            return 0;
        }
        // Counting finds the n-th part of 0 .. 1 that holds the fraction, so only that part is walked.
        int column = rows.columnOf(n, k);
        hand.expand(column, n);
        stepOn(n, k - rows.countBelow(n, column, n));
        return 1;
    }

    /** Promise 15. */
    public int place(int n) {
        return isWithin(n, 1, MOST_ROW) ? rows.countBelow(n, hand.top(), hand.bottom()) : NONE;
    }

    /** Promise 16. */
    public long floors(int n) {
        return isWithin(n, 0, MOST) ? sumOfFloors(n, hand.top(), 0, hand.bottom()) : NONE;
    }

    /** Promise 17. */
    public long sawteeth() {
        // The formula of Barkan, Hickerson and Knuth takes a Dedekind sum from the terms,
        // where the sum itself would go through up to 100000 products.
        int last = hand.count - 1;
        long alternating = 0;
        for (int i = 1; i <= last; i++) {
            alternating += i % 2 == 1 ? hand.quotients[i] : -hand.quotients[i];
        }
        long bottom = hand.bottom();
        long rest = hand.top() - hand.quotients[0] * bottom;
        long before = hand.bottomBefore();
        long ending = last % 2 == 1 ? before - 3 * bottom : -before;
        return (rest + bottom * alternating + ending) / 2;
    }

    /** Promise 18. */
    public int check() {
        return hand.termsMakeIt() && hand.convergentsAreClose() && hand.wayLeadsToIt() ? 1 : 0;
    }

    private static boolean isWithin(int value, int least, int most) {
        return value >= least && value <= most;
    }

    private static int topOrBottom(int what, int top, int bottom) {
        if (what == 0) {
            return top;
        }
        return what == 1 ? bottom : NONE;
    }

    private boolean isTerm(int i) {
        return i >= 0 && i < hand.count;
    }

    /** Goes on by so many places in row n, from a fraction that stands in it. */
    private void stepOn(int n, int places) {
        int top = hand.top();
        int bottom = hand.bottom();
        int nextBottom = Rows.bottomBehind(n, top, bottom);
        int nextTop = bottom > 0 ? (top * nextBottom + 1) / bottom : 0;
        for (int i = 0; i < places && nextBottom > 0; i++) {
            int times = (n + bottom) / nextBottom;
            int thirdTop = times * nextTop - top;
            int thirdBottom = times * nextBottom - bottom;
            top = nextTop;
            bottom = nextBottom;
            nextTop = thirdTop;
            nextBottom = thirdBottom;
        }
        hand.expand(top, bottom);
    }

    /** The sum of the greatest whole numbers in (factor * i + start) / under, for i from 0 to n - 1. */
    private static long sumOfFloors(long n, long factor, long start, long under) {
        long sum = 0;
        for (int i = 0; i < ROUNDS && under > 0; i++) {
            sum += n * (n - 1) / 2 * (factor / under) + n * (start / under);
            factor %= under;
            start %= under;
            // The points left under the line are counted again with the axes changed, as Euclid does.
            long reach = factor * n + start;
            n = reach / under;
            start = reach % under;
            long changed = factor;
            factor = under;
            under = n == 0 ? 0 : changed;
        }
        return sum;
    }

    private static final class Fraction {
        final int top;
        final int bottom;

        Fraction(int top, int bottom) {
            this.top = top;
            this.bottom = bottom;
        }
    }

    /** A fraction as its terms and convergents; the last convergent is the fraction in least terms. */
    private static final class Expansion {
        final int[] quotients = new int[MOST_TERMS];

        // Convergent i stands at i + 1: at 0 stands 1 / 0, the upper end of the tree.
        final int[] tops = new int[MOST_TERMS + 1];
        final int[] bottoms = new int[MOST_TERMS + 1];
        int count;

        int top() {
            return tops[count];
        }

        int bottom() {
            return bottoms[count];
        }

        /** The top of the last convergent but one. */
        int topBefore() {
            return count > 0 ? tops[count - 1] : 0;
        }

        /** The bottom of the last convergent but one. */
        int bottomBefore() {
            return count > 0 ? bottoms[count - 1] : 1;
        }

        void startAnew() {
            count = 0;
            tops[0] = 1;
            bottoms[0] = 0;
        }

        void addTerm(int quotient) {
            if (count >= MOST_TERMS) {
                return;
            }
            int nextTop = quotient * top() + topBefore();
            int nextBottom = quotient * bottom() + bottomBefore();
            quotients[count] = quotient;
            count++;
            tops[count] = nextTop;
            bottoms[count] = nextBottom;
        }

        void expand(int p, int q) {
            startAnew();
            int over = p;
            int under = q;
            for (int i = 0; i < MOST_TERMS && under > 0; i++) {
                int whole = over / under;
                int left = over - whole * under;
                addTerm(whole);
                over = under;
                under = left;
            }
        }

        /** Becomes the fraction with the least bottom, then top, above p / q and below r / s. */
        void expandSimplest(int p, int q, int r, int s) {
            startAnew();
            boolean found = false;
            for (int i = 0; i < MOST_TERMS && q > 0 && !found; i++) {
                int whole = p / q;
                found = (whole + 1) * s < r;
                addTerm(found ? whole + 1 : whole);
                // No whole number lies between: one over what is left of both, which changes their order.
                int lowerLeft = p - whole * q;
                int upperLeft = r - whole * s;
                p = s;
                r = q;
                q = upperLeft;
                s = lowerLeft;
            }
        }

        int countSteps() {
            int sum = -1;
            for (int i = 0; i < count; i++) {
                sum += quotients[i];
            }
            return sum;
        }

        int countRuns() {
            // 0 has no way, and the way to 1 has no step.
            return top() == 0 || top() == bottom() ? 0 : count - firstTermWithSteps();
        }

        int firstTermWithSteps() {
            return quotients[0] == 0 ? 1 : 0;
        }

        /** The steps of a run that is there, minus as many for steps to the left. */
        int stepsOfRun(int i) {
            int at = i + firstTermWithSteps();
            // The way begins at 1 / 1, not at an end of the tree, which is one step less at the last.
            int steps = at == count - 1 ? quotients[at] - 1 : quotients[at];
            return at % 2 == 0 ? steps : -steps;
        }

        /** What stands next to it in the tree, below it (side 0) or above it (1). */
        Fraction neighbourAt(int side) {
            // An even convergent is below what follows it, an odd one above.
            if (side == count % 2) {
                return new Fraction(topBefore(), bottomBefore());
            }
            return new Fraction(top() - topBefore(), bottom() - bottomBefore());
        }

        /** For n below the bottom: the near fraction with bottom up to n, by the ways of promise 11. */
        Fraction nearWithin(int n, int way) {
            int at = lastWithin(n);
            Fraction close = new Fraction(tops[at], bottoms[at]);
            // The convergent and this one are neighbours with bottoms up to n, one on each side.
            int times = close.bottom > 0 ? (n - bottoms[at - 1]) / close.bottom : 0;
            Fraction across = new Fraction(tops[at - 1] + times * close.top, bottoms[at - 1] + times * close.bottom);
            boolean closeIsLower = at % 2 == 1;
            Fraction lower = closeIsLower ? close : across;
            Fraction upper = closeIsLower ? across : close;
            if (way == 2) {
                return isLowerNearer(lower, upper) ? lower : upper;
            }
            return way == 0 ? lower : upper;
        }

        /** Where the last convergent stands whose bottom is not above n, for n from 1 on. */
        int lastWithin(int n) {
            int at = 1;
            for (int i = 2; i <= count; i++) {
                if (bottoms[i] <= n) {
                    at = i;
                }
            }
            return at;
        }

        boolean isLowerNearer(Fraction lower, Fraction upper) {
            long toLower = ((long) top() * lower.bottom - (long) bottom() * lower.top) * upper.bottom;
            long toUpper = ((long) bottom() * upper.top - (long) top() * upper.bottom) * lower.bottom;
            return toLower < toUpper || (toLower == toUpper && lower.bottom <= upper.bottom);
        }

        boolean termsMakeIt() {
            long over = 1;
            long under = 0;
            for (int i = count - 1; i >= 0; i--) {
                long next = quotients[i] * over + under;
                under = over;
                over = next;
            }
            return over == top() && under == bottom();
        }

        boolean convergentsAreClose() {
            for (int i = 2; i <= count; i++) {
                long across = (long) tops[i] * bottoms[i - 1] - (long) tops[i - 1] * bottoms[i];
                if (across != 1 && across != -1) {
                    return false;
                }
            }
            return true;
        }

        boolean wayLeadsToIt() {
            if (top() == 0) {
                return true;
            }
            long lowerTop = 0;
            long lowerBottom = 1;
            long upperTop = 1;
            long upperBottom = 0;
            int runs = countRuns();
            for (int i = 0; i < runs; i++) {
                int steps = stepsOfRun(i);
                if (steps > 0) {
                    lowerTop += steps * upperTop;
                    lowerBottom += steps * upperBottom;
                } else {
                    upperTop -= steps * lowerTop;
                    upperBottom -= steps * lowerBottom;
                }
            }
            return lowerTop + upperTop == top() && lowerBottom + upperBottom == bottom();
        }
    }

    /** Counts the fractions of a row without making it. */
    private static final class Rows {
        // At d the sum of Moebius' numbers from 1 to d, which leave each fraction counted in least terms alone.
        private final int[] moebiusSums = new int[MOST_ROW + 1];

        Rows() {
            moebiusSums[1] = 1;
            for (int d = 1; d <= MOST_ROW; d++) {
                for (int multiple = 2 * d; multiple <= MOST_ROW; multiple += d) {
                    moebiusSums[multiple] -= moebiusSums[d];
                }
            }
            for (int d = 2; d <= MOST_ROW; d++) {
                moebiusSums[d] += moebiusSums[d - 1];
            }
        }

        int countAll(int n) {
            return countInside(n, 1, 1) + 2;
        }

        /** How many fractions of row n are below p / q. */
        int countBelow(int n, int p, int q) {
            if (p == 0) {
                return 0;
            }
            return p > q ? countAll(n) : countInside(n, p, q) + 1;
        }

        /** How many fractions of row n are above 0 and below p / q, for p / q above 0 and up to 1. */
        private int countInside(int n, int p, int q) {
            long sum = 0;
            int first = 1;
            for (int i = 0; i < MOST_ROW && first <= n; i++) {
                // All divisors that leave the same quotient count the same pairs.
                int quotient = n / first;
                int last = quotient > 0 ? n / quotient : n;
                sum += (moebiusSums[last] - moebiusSums[first - 1]) * sumOfFloors(quotient, p, p - 1, q);
                first = last + 1;
            }
            return (int) sum;
        }

        /** The greatest column, up to n, whose column / n is not above fraction k of row n. */
        int columnOf(int n, int k) {
            int column = 0;
            int beyond = n + 1;
            for (int i = 0; i < ROUNDS && beyond - column > 1; i++) {
                int middle = (column + beyond) / 2;
                if (countBelow(n, middle, n) <= k) {
                    column = middle;
                } else {
                    beyond = middle;
                }
            }
            return column;
        }

        /** The bottom of the fraction that comes behind top / bottom, one of row n, in that row. */
        static int bottomBehind(int n, int top, int bottom) {
            for (int next = n; next > n - bottom && bottom > 0; next--) {
                if ((top * next + 1) % bottom == 0) {
                    return next;
                }
            }
            return n;
        }
    }
}
