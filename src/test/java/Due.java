/** Counts the answers of one test that are not the ones that are due. */
final class Due {
    interface Call {
        void make();
    }

    private static final int MOST_PRINTED = 50;

    private long calls = 0;
    private long wrong = 0;

    void is(String call, long got, long want) {
        calls++;
        if (got != want) {
            tell(call + " answered " + got + ", due is " + want);
        }
    }

    void refused(String call, Call made) {
        calls++;
        String came = "nothing";
        try {
            made.make();
        } catch (RuntimeException e) {
            came = e.getClass().getName();
        }
        if (!came.equals("java.lang.IllegalArgumentException")) {
            tell(call + " threw " + came + ", due is IllegalArgumentException");
        }
    }

    void holds(String what, boolean held) {
        calls++;
        if (!held) {
            tell(what + " does not hold");
        }
    }

    /** The fraction at hand, looked at by promise 3. */
    void atHand(String after, SternDesk desk, int top, int bottom) {
        is(after + ", then part(0)", desk.part(0), top);
        is(after + ", then part(1)", desk.part(1), bottom);
    }

    private void tell(String text) {
        wrong++;
        if (wrong <= MOST_PRINTED) {
            System.out.println(text);
        }
    }

    void end() {
        System.out.println(wrong == 0 ? calls + " answers are as due" : wrong + " answers are not as due");
        if (wrong != 0) {
            System.exit(1);
        }
    }
}
