import java.lang.reflect.Field;

/** Promise 18: check. */
public final class CheckTest {
    public static void main(String[] args) throws ReflectiveOperationException {
        Due due = new Due();
        due.is("new: check()", new SternDesk().check(), 1);
        for (int p = 0; p <= 100; p++) {
            for (int q = 1; q <= 100; q++) {
                good(due, p, q);
            }
        }
        for (int i = 0; i < 20000; i++) {
            good(due, (int) (i * 7919L % 100001), (int) (i * 104729L % 100000) + 1);
        }
        int[] edges = {0, 1, 2, 46368, 50000, 75025, 99999, 100000};
        for (int p : edges) {
            for (int q : edges) {
                good(due, p, Math.max(q, 1));
            }
        }
        damaged(due);
        due.end();
    }

    private static void good(Due due, int p, int q) {
        SternDesk desk = Plain.deskWith(p, q);
        Plain plain = Plain.with(p, q);
        String call = p + " / " + q + ": check()";
        due.is(call, desk.check(), 1);
        due.atHand(call, desk, plain.top, plain.bottom);
    }

    /** No call can bring about a 0, so the numbers inside are damaged by hand to see one. */
    private static void damaged(Due due) throws ReflectiveOperationException {
        due.is("check() with a wrong term", damaged("quotients", 1), 0);
        due.is("check() with a wrong last term", damaged("quotients", 2), 0);
        due.is("check() with a wrong convergent's top", damaged("tops", 2), 0);
        due.is("check() with a wrong convergent's bottom", damaged("bottoms", 2), 0);
        due.is("check() with a wrong top", damaged("tops", 3), 0);
        due.is("check() with a wrong bottom", damaged("bottoms", 3), 0);
    }

    private static int damaged(String name, int at) throws ReflectiveOperationException {
        SternDesk desk = Plain.deskWith(355, 113);
        Field hand = SternDesk.class.getDeclaredField("hand");
        hand.setAccessible(true);
        Object inside = hand.get(desk);
        Field numbers = inside.getClass().getDeclaredField(name);
        numbers.setAccessible(true);
        ((int[]) numbers.get(inside))[at]++;
        return desk.check();
    }
}
