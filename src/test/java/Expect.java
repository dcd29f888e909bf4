/** Counts answers that are not the ones that are due, and prints each of them. */
final class Expect {
    /** A call whose answer, or exception, is looked at. A boolean counts 1 or 0. */
    interface Call {
        long answer();
    }

    /** A call without an answer. */
    interface Deed {
        void run();
    }

    private static final Class<?> ARGUMENT = IllegalArgumentException.class;
    private static final Class<?> STATE = IllegalStateException.class;
    private static final Class<?> FULL = UnsupportedOperationException.class;
    private static final Class<?> OUTSIDE = IndexOutOfBoundsException.class;

    private int looked;
    private int wrong;

    void same(String what, long got, long want) {
        looked++;
        if (got != want) {
            wrong++;
            System.out.println(what + " is " + got + ", due is " + want);
        }
    }

    void answers(String what, long want, Call call) {
        looked++;
        String got = outcome(call);
        if (!got.equals(Long.toString(want))) {
            wrong++;
            System.out.println(what + " gave " + got + ", due is " + want);
        }
    }

    void goes(String what, Deed deed) {
        answers(what, 0, asCall(deed));
    }

    void argument(String what, Call call) {
        refused(what, ARGUMENT, call);
    }

    void argument(String what, Deed deed) {
        refused(what, ARGUMENT, asCall(deed));
    }

    void state(String what, Call call) {
        refused(what, STATE, call);
    }

    void state(String what, Deed deed) {
        refused(what, STATE, asCall(deed));
    }

    void full(String what, Call call) {
        refused(what, FULL, call);
    }

    void full(String what, Deed deed) {
        refused(what, FULL, asCall(deed));
    }

    void outside(String what, Call call) {
        refused(what, OUTSIDE, call);
    }

    /** The answer as a text, or the exact class of what was thrown. */
    static String outcome(Call call) {
        try {
            return Long.toString(call.answer());
        } catch (RuntimeException e) {
            return e.getClass().getName();
        }
    }

    static Call asCall(Deed deed) {
        return () -> {
            deed.run();
            return 0;
        };
    }

    void end() {
        System.out.println(wrong == 0 ? looked + " answers are as due" : wrong + " of " + looked + " answers are not as due");
        if (wrong != 0) {
            System.exit(1);
        }
    }

    private void refused(String what, Class<?> type, Call call) {
        looked++;
        String got = outcome(call);
        if (!got.equals(type.getName())) {
            wrong++;
            System.out.println(what + " gave " + got + ", due is " + type.getName());
        }
    }
}
