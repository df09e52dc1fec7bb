import java.lang.reflect.Field;

/** Promise 18: check. */
public final class CheckTest {
    public static void main(String[] args) throws ReflectiveOperationException {
        Due due = new Due();
        due.is("new: check()", new SternDesk().check(), 1);
        for (int p = 0; p <= 100; p++) {
            for (int q = 1; q <= 100; q++) {
                good(due, p, q);
            }
        }
        for (int i = 0; i < 20000; i++) {
            good(due, (int) (i * 7919L % 100001), (int) (i * 104729L % 100000) + 1);
        }
        int[] edges = {0, 1, 2, 46368, 50000, 75025, 99999, 100000};
        for (int p : edges) {
            for (int q : edges) {
                good(due, p, Math.max(q, 1));
            }
        }
        damaged(due);
        due.end();
    }

    private static void good(Due due, int p, int q) {
        SternDesk desk = Plain.deskWith(p, q);
        Plain plain = Plain.with(p, q);
        String call = p + " / " + q + ": check()";
        due.is(call, desk.check(), 1);
        due.atHand(call, desk, plain.top, plain.bottom);
    }

    /** No call can bring about a 0, so the numbers inside are damaged by hand to see one. */
    private static void damaged(Due due) throws ReflectiveOperationException {
        String[] names = {"quotients", "tops", "bottoms"};
        int[] first = {0, 1, 1};
        for (int i = 0; i < names.length; i++) {
            for (int at = first[i]; at < first[i] + 3; at++) {
                SternDesk desk = Plain.deskWith(355, 113);
                inside(desk, names[i])[at]++;
                due.is("check() with " + names[i] + "[" + at + "] more by 1", desk.check(), 0);
            }
        }
        // 25 / 8 is a neighbour of convergent 0, which is 3 / 1, but not of 355 / 113.
        SternDesk desk = Plain.deskWith(355, 113);
        inside(desk, "tops")[2] = 25;
        inside(desk, "bottoms")[2] = 8;
        due.is("check() with 25 / 8 as convergent 1", desk.check(), 0);
    }

    private static int[] inside(SternDesk desk, String name) throws ReflectiveOperationException {
        Field hand = SternDesk.class.getDeclaredField("hand");
        hand.setAccessible(true);
        Object expansion = hand.get(desk);
        Field numbers = expansion.getClass().getDeclaredField(name);
        numbers.setAccessible(true);
        return (int[]) numbers.get(expansion);
    }
}
