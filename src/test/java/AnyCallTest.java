import java.io.IOException;
import java.lang.reflect.InvocationTargetException;
import java.lang.reflect.Method;
import java.lang.reflect.Modifier;
import java.nio.file.Files;
import java.nio.file.Path;
import java.util.ArrayList;
import java.util.Arrays;
import java.util.HashSet;
import java.util.List;
import java.util.Set;
import java.util.regex.Matcher;
import java.util.regex.Pattern;

/**
 * Any call with any arguments in any state of a game: it ends, and throws by a throw statement what the document
 * names for it, or nothing.
 */
public final class AnyCallTest {
    private static final int[] MANY = {Integer.MIN_VALUE, -11, -1, 0, 1, 2, 3, 4, 5, 11, 45, 50, 65535,
        Integer.MAX_VALUE};
    private static final int[] SOME = {Integer.MIN_VALUE, -1, 0, 1, 3, 4, 12, Integer.MAX_VALUE};
    private static final char[] KINDS = {'n', 'd', 'r', 'w', 'u', 'x', '\0', '\uffff'};
    // An object is used for at most 512 calls.
    private static final int CALLS = 512;

    private final Check check = new Check();
    private final Set<String> written = new HashSet<>();
    private final List<Method> calls = new ArrayList<>();

    private AnyCallTest() throws IOException {
        Matcher statements = Pattern.compile("throw new (\\w+)\\(\"([^\"]+)\"\\)")
                .matcher(Files.readString(Path.of("src/main/java/Hintworks.java")));
        while (statements.find()) {
            written.add(statements.group(1) + ": " + statements.group(2));
        }
        for (Method call : Hintworks.class.getDeclaredMethods()) {
            if (Modifier.isPublic(call.getModifiers())) {
                calls.add(call);
            }
        }
    }

    public static void main(String[] args) throws Exception {
        AnyCallTest all = new AnyCallTest();
        String[] suits = {"n", "d", "w", "nr", "uw", "ndr", "wuwu", "ndrwu", "ddddd"};
        for (String kinds : suits) {
            for (int players = 2; players <= 4; players++) {
                for (int turns = -1; turns <= 64; turns = turns < 4 ? turns + 1 : turns * 2) {
                    all.inState(players, kinds, turns);
                }
            }
        }
        all.check.end();
    }

    private void inState(int players, String kinds, int turns) throws Exception {
        // A turn takes up to four calls; those that lay and start the game are fewer than ten.
        int left = CALLS - 10 - 4 * Math.max(turns, 0);
        for (Method call : calls) {
            Hintworks x = behind(players, kinds, turns);
            int made = 0;
            for (Object[] arguments : argumentsOf(call)) {
                if (made == left) {
                    x = behind(players, kinds, turns);
                    made = 0;
                }
                made++;
                look(players + kinds + " behind " + turns + ": ", x, call, arguments);
            }
        }
    }

    // A game of some turns, in which players do in turn what the number of the turn gives; -1 is ahead of the start.
    private static Hintworks behind(int players, String kinds, int turns) {
        Hintworks x = Laid.deck(players, kinds);
        if (turns >= 0 && !Check.outcome(x::start).startsWith("throws")) {
            for (int turn = 0; turn < turns && !x.isOver(); turn++) {
                if (turn % 4 == 2 && x.clues() < 8) {
                    x.discard(turn % 3);
                } else if (turn % 9 == 8) {
                    x.play(0);
                } else {
                    Laid.follow(x, x.advice());
                }
            }
        }
        return x;
    }

    private void look(String state, Hintworks x, Method call, Object[] arguments) throws Exception {
        try {
            call.invoke(x, arguments);
        } catch (InvocationTargetException refused) {
            Throwable thrown = refused.getCause();
            boolean isNamed = Arrays.asList(call.getExceptionTypes()).contains(thrown.getClass());
            boolean isWritten = written.contains(thrown.getClass().getSimpleName() + ": " + thrown.getMessage());
            if (!isNamed || !isWritten) {
                check.due(state + call.getName() + Arrays.toString(arguments), thrown, "an exception that is named");
            }
        }
    }

    private static List<Object[]> argumentsOf(Method call) {
        int[] numbers = call.getParameterCount() < 3 ? MANY : SOME;
        List<Object[]> all = new ArrayList<>();
        all.add(new Object[0]);
        for (Class<?> type : call.getParameterTypes()) {
            List<Object[]> longer = new ArrayList<>();
            for (Object[] arguments : all) {
                for (int index = 0; index < (type == char.class ? KINDS.length : numbers.length); index++) {
                    Object[] more = Arrays.copyOf(arguments, arguments.length + 1);
                    more[arguments.length] = type == char.class ? (Object) KINDS[index] : (Object) numbers[index];
                    longer.add(more);
                }
            }
            all = longer;
        }
        return all;
    }
}
