/** Counts answers that are not the ones that are due, and prints each of them. */
final class Expect {
    /** A call whose answer, or exception, is looked at. A boolean counts 1 or 0. */
    interface Call {
        long answer();
    }

    /** A call without an answer. */
    interface Deed {
        void run();
    }

    static final Class<?> ARGUMENT = IllegalArgumentException.class;
    static final Class<?> STATE = IllegalStateException.class;
    static final Class<?> FULL = UnsupportedOperationException.class;
    static final Class<?> OUTSIDE = IndexOutOfBoundsException.class;

    private String test = "";
    private int looked;
    private int wrong;

    /** What is wrong from here on is told with the name of this test. */
    void start(String name) {
        test = name + ": ";
    }

    void same(String what, long got, long want) {
        same(what, Long.toString(got), Long.toString(want));
    }

    void same(String what, String got, String want) {
        looked++;
        if (!got.equals(want)) {
            wrong++;
            System.out.println(test + what + " gave " + got + ", due is " + want);
        }
    }

    void answers(String what, long want, Call call) {
        same(what, outcome(call), Long.toString(want));
    }

    void goes(String what, Deed deed) {
        answers(what, 0, asCall(deed));
    }

    void argument(String what, Call call) {
        same(what, outcome(call), ARGUMENT.getName());
    }

    void argument(String what, Deed deed) {
        argument(what, asCall(deed));
    }

    void state(String what, Call call) {
        same(what, outcome(call), STATE.getName());
    }

    void state(String what, Deed deed) {
        state(what, asCall(deed));
    }

    void full(String what, Call call) {
        same(what, outcome(call), FULL.getName());
    }

    void full(String what, Deed deed) {
        full(what, asCall(deed));
    }

    void outside(String what, Call call) {
        same(what, outcome(call), OUTSIDE.getName());
    }

    /** The answer as a text, or the exact class of what was thrown. */
    static String outcome(Call call) {
        try {
            return Long.toString(call.answer());
        } catch (RuntimeException e) {
            return e.getClass().getName();
        }
    }

    static Call asCall(Deed deed) {
        return () -> {
            deed.run();
            return 0;
        };
    }

    void end() {
        System.out.println(wrong == 0 ? looked + " answers are as due" : wrong + " of " + looked + " answers are not as due");
        if (wrong != 0) {
            System.exit(1);
        }
    }
}
