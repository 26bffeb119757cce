import java.lang.reflect.InvocationTargetException;
import java.lang.reflect.Method;
import java.lang.reflect.Modifier;
import java.util.ArrayList;
import java.util.Arrays;
import java.util.List;
import java.util.Set;
import java.util.TreeSet;
import java.util.function.Function;
import java.util.function.Supplier;

/** What the document's terms say of exceptions, for every call of the class. */
public final class EdgesOfExceptionsTest {
    private static final int[] MANY = {Integer.MIN_VALUE, -1, 0, 1, 2, 3, 4, 5, 6, 9, 10, 46, 65536, Integer.MAX_VALUE};
    private static final int[] SOME = {-1, 0, 1, 5, 9, 65536, Integer.MAX_VALUE};
    private static final int[][] TWO = Laid.hands(Laid.hand(4, 12, 3, 11, 1), Laid.hand(2, 1, 15, 5, 2));

    private final Said said = new Said();
    private final Check check = said.check();
    private final Set<String> declared = new TreeSet<>();
    private final Set<String> seen = new TreeSet<>();

    private EdgesOfExceptionsTest() throws java.io.IOException {
    }

    public static void main(String[] args) throws java.io.IOException {
        EdgesOfExceptionsTest all = new EdgesOfExceptionsTest();
        all.said.part("Exceptions");
        all.said.test("A method that throws an exception changes nothing.", all::nothingChanges);
        all.said.test("If several exceptions apply, the one that is documented first is thrown.", all::firstOfSeveral);
        all.said.end();
    }

    // ---- Games of all kinds in which calls are refused

    private static Hintworks fewCards() {
        return Laid.deck(2, "d");
    }

    private static Hintworks running() {
        return Laid.inOrder(2, "nnuwn", 1, 41, 2, 42, 3, 43, 4, 44, 5, 45);
    }

    // The giver has the 1 that is ahead of the 2, and all cards of the other one are touched.
    private static Hintworks hinted() {
        return Laid.acted(Laid.game("nn", TWO, 13, 13), "r11 r04 r15 r04 r12 r04");
    }

    private static Hintworks noClue() {
        return Laid.acted(hinted(), "r11 r04");
    }

    private static Hintworks over() {
        return Laid.acted(Laid.game("nn", TWO, 13, 13), "r12 p2 p0 p0");
    }

    // ---- Nothing changes

    private void nothingChanges() {
        for (Method call : Hintworks.class.getDeclaredMethods()) {
            if (Modifier.isPublic(call.getModifiers())) {
                for (Class<?> thrown : call.getExceptionTypes()) {
                    declared.add(call.getName() + " " + thrown.getName());
                }
                all(Hintworks::new, "not started: ", call);
                all(EdgesOfExceptionsTest::fewCards, "with few cards: ", call);
                all(EdgesOfExceptionsTest::running, "running: ", call);
                all(EdgesOfExceptionsTest::hinted, "all touched: ", call);
                all(EdgesOfExceptionsTest::noClue, "no clue: ", call);
                all(EdgesOfExceptionsTest::over, "over: ", call);
            }
        }
        // There is always something to advise: a hint with all clues, as a hand has cards; a discard with fewer.
        declared.remove("advice java.util.NoSuchElementException");
        check.due("exceptions that calls threw", String.join("\n", seen), String.join("\n", declared));
    }

    private void all(Supplier<Hintworks> made, String what, Method call) {
        String course = Snapshot.courseOf(made.get());
        for (Object[] arguments : argumentsOf(call.getParameterTypes())) {
            Hintworks x = made.get();
            String thrown = thrownBy(x, call, arguments);
            if (!thrown.isEmpty()) {
                String told = what + call.getName() + Arrays.toString(arguments);
                seen.add(call.getName() + " " + thrown);
                check.due(told + ", then the course of the game", Snapshot.courseOf(x), course);
            }
        }
    }

    private static List<Object[]> argumentsOf(Class<?>[] types) {
        List<Object[]> all = new ArrayList<>();
        all.add(new Object[0]);
        for (Class<?> type : types) {
            List<Object[]> longer = new ArrayList<>();
            for (Object[] arguments : all) {
                for (Object value : valuesOf(type, types.length)) {
                    Object[] more = Arrays.copyOf(arguments, arguments.length + 1);
                    more[arguments.length] = value;
                    longer.add(more);
                }
            }
            all = longer;
        }
        return all;
    }

    private static List<Object> valuesOf(Class<?> type, int parameters) {
        List<Object> values = new ArrayList<>();
        if (type == char.class) {
            values.addAll(List.of('d', 'x', '\0', '\uffff'));
            return values;
        }
        for (int number : parameters < 3 ? MANY : SOME) {
            values.add(number);
        }
        return values;
    }

    private static String thrownBy(Hintworks x, Method call, Object... arguments) {
        try {
            call.invoke(x, arguments);
            return "";
        } catch (InvocationTargetException thrown) {
            return thrown.getCause().getClass().getName();
        } catch (IllegalAccessException closed) {
            return closed.toString();
        }
    }

    // ---- The first of several

    private void first(Class<?> kind, Supplier<Hintworks> made, String what, Function<Hintworks, Object> call) {
        check.refused(kind, made, what, call);
    }

    private void firstOfSeveral() {
        ofLaying();
        ofActs();
        ofHints();
        ofKnowledge();
        ofHatsAndBest();
    }

    private void ofLaying() {
        first(Check.RANGE, Hintworks::new, "no suit, no kind", x -> x.setSuit(1, 'x', 0));
        first(Check.RANGE, Hintworks::new, "no suit, no seed", x -> x.setSuit(-1, 'd', -1));
        first(Check.RANGE, EdgesOfExceptionsTest::running, "no suit, started", x -> x.setSuit(5, 'd', 0));
        first(Check.RANGE, EdgesOfExceptionsTest::over, "no suit, no kind, started", x -> x.setSuit(2, 'x', 65536));
        first(Check.ARGUMENT, EdgesOfExceptionsTest::running, "no kind, started", x -> x.setSuit(0, 'x', 0));
        first(Check.ARGUMENT, EdgesOfExceptionsTest::running, "no seed, started", x -> x.setSuit(0, 'd', 65536));
        first(Check.RANGE, Hintworks::new, "no place, no card", x -> x.lay(10, 6));
        first(Check.RANGE, Hintworks::new, "no place, so no card from there on", x -> x.lay(10, 5));
        first(Check.RANGE, EdgesOfExceptionsTest::running, "no place, started", x -> x.lay(50, 1));
        first(Check.RANGE, EdgesOfExceptionsTest::running, "no place, no card, started", x -> x.lay(-1, 0));
        first(Check.ARGUMENT, EdgesOfExceptionsTest::running, "no card, started", x -> x.lay(49, 6));
        first(Check.ARGUMENT, Hintworks::new, "no card, so not from there on", x -> x.lay(9, 11));
        first(Check.STATE, EdgesOfExceptionsTest::running, "started, no card from there on", x -> x.lay(49, 1));
    }

    private void ofActs() {
        List<Supplier<Hintworks>> resting = List.of(Hintworks::new, EdgesOfExceptionsTest::over);
        for (Supplier<Hintworks> made : resting) {
            first(Check.STATE, made, "play, no place", x -> x.play(5));
            first(Check.STATE, made, "discard, no place", x -> x.discard(-1));
            first(Check.STATE, made, "discard, 8 clues", x -> x.discard(0));
            first(Check.STATE, made, "a suit, no player", x -> x.hintSuit(2, 0));
            first(Check.STATE, made, "a suit, no suit", x -> x.hintSuit(1, 5));
            first(Check.STATE, made, "a suit, the own hand", x -> x.hintSuit(0, 0));
            first(Check.STATE, made, "a suit that touches none", x -> x.hintSuit(1, 0));
            first(Check.STATE, made, "a rank, no player", x -> x.hintRank(-1, 1));
            first(Check.STATE, made, "a rank, no rank", x -> x.hintRank(1, 0));
            first(Check.STATE, made, "a rank, the own hand", x -> x.hintRank(0, 1));
            first(Check.STATE, made, "a rank that touches none", x -> x.hintRank(1, 4));
        }
        first(Check.RANGE, EdgesOfExceptionsTest::running, "discard, no place, 8 clues", x -> x.discard(5));
    }

    private void ofHints() {
        Supplier<Hintworks> made = EdgesOfExceptionsTest::running;
        first(Check.RANGE, made, "no suit, the own hand", x -> x.hintSuit(0, 5));
        first(Check.RANGE, made, "no player, a suit that no hint tells", x -> x.hintSuit(2, 2));
        first(Check.ARGUMENT, made, "the own hand, a suit that no hint tells", x -> x.hintSuit(0, 2));
        first(Check.ARGUMENT, made, "the own hand, another one", x -> x.hintSuit(0, 3));
        first(Check.ARGUMENT, made, "the own hand, touches none", x -> x.hintSuit(0, 4));
        first(Check.RANGE, made, "no player, no rank", x -> x.hintRank(2, 6));
        first(Check.ARGUMENT, made, "the own hand, no rank", x -> x.hintRank(0, 0));
        Supplier<Hintworks> none = EdgesOfExceptionsTest::noClue;
        first(Check.RANGE, none, "no player, no clue", x -> x.hintSuit(2, 0));
        first(Check.RANGE, none, "no suit, no clue", x -> x.hintSuit(1, 2));
        first(Check.ARGUMENT, none, "the own hand, no clue", x -> x.hintSuit(0, 0));
        first(Check.RANGE, none, "no player, no clue, by a rank", x -> x.hintRank(-1, 1));
        first(Check.ARGUMENT, none, "no rank, no clue", x -> x.hintRank(1, 6));
        first(Check.ARGUMENT, none, "the own hand, no clue, by a rank", x -> x.hintRank(0, 1));
        first(Check.UNSUPPORTED, none, "no clue, touches none", x -> x.hintRank(1, 4));
    }

    private void ofKnowledge() {
        first(Check.STATE, Hintworks::new, "cardAt, no player", x -> x.cardAt(2, 0));
        first(Check.STATE, Hintworks::new, "cardAt, no place", x -> x.cardAt(0, 5));
        first(Check.STATE, Hintworks::new, "kinds, no player", x -> x.kinds(-1, 0));
        first(Check.STATE, Hintworks::new, "canBe, no player, no card", x -> x.canBe(2, 0, 0));
        first(Check.STATE, Hintworks::new, "canBe, no card", x -> x.canBe(0, 0, 6));
        first(Check.RANGE, EdgesOfExceptionsTest::running, "canBe, no player, no card", x -> x.canBe(2, 0, 6));
        first(Check.RANGE, EdgesOfExceptionsTest::running, "canBe, no place, no card", x -> x.canBe(1, 5, 50));
        first(Check.STATE, Hintworks::new, "thinks, no player", x -> x.thinks(2, 0, 0));
        first(Check.STATE, Hintworks::new, "thinks, no other one", x -> x.thinks(0, 2, 0));
        first(Check.STATE, Hintworks::new, "worlds, no player", x -> x.worlds(2));
        first(Check.STATE, Hintworks::new, "isPlayable, no place", x -> x.isPlayable(0, -1));
        first(Check.STATE, Hintworks::new, "isUseless, no place", x -> x.isUseless(0, 5));
        first(Check.STATE, Hintworks::new, "chop, no player", x -> x.chop(2));
        first(Check.RANGE, EdgesOfExceptionsTest::hinted, "chop, no player, all touched", x -> x.chop(2));
    }

    private void ofHatsAndBest() {
        first(Check.STATE, Hintworks::new, "hat, no player", x -> x.hat(2));
        first(Check.STATE, Hintworks::new, "code, no player", x -> x.code(-1));
        first(Check.STATE, Hintworks::new, "learns, no player", x -> x.learns(0, 2));
        first(Check.STATE, Hintworks::new, "learns, both the same", x -> x.learns(1, 1));
        first(Check.RANGE, EdgesOfExceptionsTest::running, "learns, no player, the same", x -> x.learns(2, 2));
        first(Check.RANGE, EdgesOfExceptionsTest::running, "learns, below, the same", x -> x.learns(-1, -1));
        first(Check.STATE, Hintworks::new, "best, no number of turns", x -> x.best(3));
    }
}
