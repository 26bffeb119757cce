import java.util.NoSuchElementException;
import java.util.function.Function;
import java.util.function.Supplier;

/** Counts the answers that are not as due, and ends the test by them. */
final class Check {
    interface Call {
        Object answer() throws Exception;
    }

    static final Class<?> STATE = IllegalStateException.class;
    static final Class<?> RANGE = IndexOutOfBoundsException.class;
    static final Class<?> ARGUMENT = IllegalArgumentException.class;
    static final Class<?> UNSUPPORTED = UnsupportedOperationException.class;
    static final Class<?> ELEMENT = NoSuchElementException.class;
    static final Class<?> ARITHMETIC = ArithmeticException.class;

    private int wrong;
    private String subject = "";

    /** What the answers from now on are about. */
    void about(String text) {
        subject = text;
    }

    void due(String what, Object got, Object want) {
        if (!String.valueOf(got).equals(String.valueOf(want))) {
            wrong++;
            System.out.println(subject + what + " answered " + got + ", due is " + want);
        }
    }

    void state(Hintworks x, String what, Call call) {
        refuses(x, what, STATE, call);
    }

    void range(Hintworks x, String what, Call call) {
        refuses(x, what, RANGE, call);
    }

    void argument(Hintworks x, String what, Call call) {
        refuses(x, what, ARGUMENT, call);
    }

    void unsupported(Hintworks x, String what, Call call) {
        refuses(x, what, UNSUPPORTED, call);
    }

    void element(Hintworks x, String what, Call call) {
        refuses(x, what, ELEMENT, call);
    }

    void arithmetic(Hintworks x, String what, Call call) {
        refuses(x, what, ARITHMETIC, call);
    }

    // A call that throws has to change nothing, so all that can be asked is asked ahead of it and behind it.
    private void refuses(Hintworks x, String what, Class<?> kind, Call call) {
        String before = Snapshot.of(x);
        due(what, outcome(call), "throws " + kind.getName());
        due(what + ", then all else", Snapshot.of(x), before);
    }

    /**
     * A call on a new object is refused, and this one goes on as its twin does that was not called so: what a
     * call may change and nothing shows at once, such as the cards of the deck, shows in the course of the game.
     */
    void refused(Class<?> kind, Supplier<Hintworks> made, String what, Function<Hintworks, Object> call) {
        Hintworks x = made.get();
        due(what, outcome(() -> call.apply(x)), "throws " + kind.getName());
        due(what + ", then the course of the game", Snapshot.courseOf(x), Snapshot.courseOf(made.get()));
    }

    /** A call on a new object is taken. */
    void taken(Supplier<Hintworks> made, String what, Function<Hintworks, Object> call) {
        Hintworks x = made.get();
        due(what + " is taken", outcome(() -> call.apply(x)).startsWith("throws"), false);
    }

    static String outcome(Call call) {
        try {
            return String.valueOf(call.answer());
        } catch (Exception thrown) {
            return "throws " + thrown.getClass().getName();
        }
    }

    void end() {
        System.out.println(wrong == 0 ? "all answers are as due" : wrong + " answers are not as due");
        if (wrong != 0) {
            System.exit(1);
        }
    }
}
