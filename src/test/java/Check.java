/** Counts the answers that are not as due, and ends the test by them. */
final class Check {
    interface Call {
        Object answer() throws Exception;
    }

    private static final Class<?> STATE = IllegalStateException.class;
    private static final Class<?> RANGE = IndexOutOfBoundsException.class;
    private static final Class<?> ARGUMENT = IllegalArgumentException.class;
    private static final Class<?> UNSUPPORTED = UnsupportedOperationException.class;
    private static final Class<?> ELEMENT = java.util.NoSuchElementException.class;
    private static final Class<?> ARITHMETIC = ArithmeticException.class;

    private int wrong;

    void due(String what, Object got, Object want) {
        if (!String.valueOf(got).equals(String.valueOf(want))) {
            wrong++;
            System.out.println(what + " answered " + got + ", due is " + want);
        }
    }

    void state(Hintworks x, String what, Call call) {
        refuses(x, what, STATE, call);
    }

    void range(Hintworks x, String what, Call call) {
        refuses(x, what, RANGE, call);
    }

    void argument(Hintworks x, String what, Call call) {
        refuses(x, what, ARGUMENT, call);
    }

    void unsupported(Hintworks x, String what, Call call) {
        refuses(x, what, UNSUPPORTED, call);
    }

    void element(Hintworks x, String what, Call call) {
        refuses(x, what, ELEMENT, call);
    }

    void arithmetic(Hintworks x, String what, Call call) {
        refuses(x, what, ARITHMETIC, call);
    }

    // A call that throws has to change nothing, so all that can be asked is asked ahead of it and behind it.
    private void refuses(Hintworks x, String what, Class<?> kind, Call call) {
        String before = Snapshot.of(x);
        due(what, outcome(call), "throws " + kind.getName());
        due(what + ", then all else", Snapshot.of(x), before);
    }

    static String outcome(Call call) {
        try {
            return String.valueOf(call.answer());
        } catch (Exception thrown) {
            return "throws " + thrown.getClass().getName();
        }
    }

    void end() {
        System.out.println(wrong == 0 ? "all answers are as due" : wrong + " answers are not as due");
        if (wrong != 0) {
            System.exit(1);
        }
    }
}
