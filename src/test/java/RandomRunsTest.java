import java.lang.reflect.InvocationTargetException;
import java.lang.reflect.Method;
import java.lang.reflect.Modifier;
import java.util.ArrayList;
import java.util.Arrays;
import java.util.Comparator;
import java.util.List;
import java.util.Random;

/** Runs of calls by a fixed seed, each call on a Hintworks and on the Oracle, which have to answer alike. */
public final class RandomRunsTest {
    private static final int RUNS = 1500;
    private static final int CALLS = 480;
    private static final String KINDS = "ndrwu";
    private static final Method[] ALL = publicCalls();

    private final Random random;
    private final Hintworks x = new Hintworks();
    private final Oracle oracle = new Oracle();
    private final StringBuilder told = new StringBuilder();
    private int calls;
    private int players = 2;
    private int suits = 1;
    private boolean differs;

    private RandomRunsTest(int seed) {
        random = new Random(seed);
    }

    public static void main(String[] args) throws Exception {
        for (int run = 0; run < RUNS; run++) {
            if (!new RandomRunsTest(run).passes()) {
                System.out.println("in run " + run);
                System.exit(1);
            }
        }
        System.out.println("all answers are as due");
    }

    // The order in which a class names its methods is free, so it is made the same for all.
    private static Method[] publicCalls() {
        Method[] open = Arrays.stream(Hintworks.class.getDeclaredMethods())
                .filter(call -> Modifier.isPublic(call.getModifiers()))
                .toArray(Method[]::new);
        Arrays.sort(open, Comparator.comparing(Method::getName));
        return open;
    }

    private boolean passes() throws Exception {
        setUp();
        while (calls < CALLS && !differs) {
            boolean rests = oracle.isOver() || !"0123".contains(outcome(oracle, "turn"));
            if (rests && random.nextInt(12) == 0) {
                setUp();
            } else if (random.nextInt(3) > 0) {
                askAny();
            } else {
                act();
            }
        }
        return !differs;
    }

    private void setUp() throws Exception {
        players = 2 + random.nextInt(3);
        suits = 1 + random.nextInt(5);
        call("game", players, suits, random.nextInt(65536));
        for (int suit = 0; suit < suits; suit++) {
            if (random.nextInt(3) == 0) {
                call("setSuit", suit, KINDS.charAt(random.nextInt(5)), random.nextInt(65536));
            }
        }
        int wanted = random.nextInt(4) * 5;
        for (int place = 0; place < wanted; place++) {
            call("lay", place, card(suits));
        }
        if (random.nextInt(15) > 0) {
            call("start");
        }
    }

    // ---- Acts: games of strikes alone would end too soon to show much, so most plays look at the open cards

    private void act() throws Exception {
        int choice = random.nextInt(20);
        if (choice < 7) {
            playFitting();
        } else if (choice == 7) {
            call("play", place());
        } else if (choice < 11) {
            call("discard", place());
        } else if (choice < 14) {
            goByAdvice();
        } else if (choice < 17) {
            call("hintSuit", player(), random.nextInt(suits));
        } else {
            call("hintRank", player(), 1 + random.nextInt(5));
        }
    }

    private void playFitting() throws Exception {
        List<Integer> fitting = new ArrayList<>();
        for (int place = 0; place < 5; place++) {
            if (oracle.fits(place)) {
                fitting.add(place);
            }
        }
        if (!fitting.isEmpty()) {
            call("play", fitting.get(random.nextInt(fitting.size())));
        }
    }

    private void goByAdvice() throws Exception {
        String advised = call("advice");
        if (advised.startsWith("throws")) {
            return;
        }
        int advice = Integer.parseInt(advised);
        int hint = advice % 100;
        if (advice < 20) {
            call("play", advice - 10);
        } else if (advice < 100) {
            call("discard", advice - 20);
        } else if (hint < 10) {
            call("hintSuit", advice / 100 - 1, hint);
        } else {
            call("hintRank", advice / 100 - 1, hint - 10);
        }
    }

    // ---- Any call, with arguments that mostly fit

    private void askAny() throws Exception {
        Method any = ALL[random.nextInt(ALL.length)];
        String name = any.getName();
        boolean isAct = "game play discard hintSuit hintRank".contains(name);
        if (isAct && random.nextInt(8) > 0) {
            return;
        }
        Class<?>[] types = any.getParameterTypes();
        Object[] arguments = new Object[types.length];
        for (int index = 0; index < types.length; index++) {
            arguments[index] = types[index] == char.class ? (Object) "ndrwux\0".charAt(random.nextInt(7))
                    : (Object) number(name, index);
        }
        String answer = call(name, arguments);
        if (name.equals("game") && !answer.startsWith("throws")) {
            players = (Integer) arguments[0];
            suits = (Integer) arguments[1];
        }
    }

    private int number(String name, int index) {
        int wild = random.nextInt(100);
        if (wild < 3) {
            return wild == 0 ? random.nextInt() : wild == 1 ? Integer.MIN_VALUE : Integer.MAX_VALUE;
        }
        switch (name) {
            case "game":
                return index == 0 ? 1 + random.nextInt(5) : index == 1 ? random.nextInt(7) : seed();
            case "setSuit":
                return index == 0 ? random.nextInt(suits + 1) - random.nextInt(2) : seed();
            case "lay":
                return index == 0 ? random.nextInt(55) - 1 : wildCard();
            case "discarded":
            case "isCritical":
                return wildCard();
            case "focus":
            case "meaning":
            case "stands":
            case "badTouch":
            case "finesses":
                return random.nextInt(oracle.hints() + 2) - random.nextInt(2);
            case "best":
                return random.nextInt(5) - 1;
            case "hintRank":
                return index == 0 ? player() : random.nextInt(7);
            case "hintSuit":
                return index == 0 ? player() : random.nextInt(suits + 1) - random.nextInt(2);
            default:
                return inHand(name, index);
        }
    }

    private int inHand(String name, int index) {
        boolean isPlace = name.equals("play") || name.equals("discard") || index == (name.equals("thinks") ? 2 : 1);
        if (name.equals("canBe") && index == 2) {
            return wildCard();
        }
        return isPlace && !name.equals("learns") && !(name.equals("thinks") && index == 1) ? place() : player();
    }

    private int player() {
        return random.nextInt(12) == 0 ? random.nextInt(6) - 1 : random.nextInt(players);
    }

    private int place() {
        return random.nextInt(12) == 0 ? random.nextInt(8) - 1 : random.nextInt(players == 4 ? 4 : 5);
    }

    private int card(int suitNumber) {
        return 10 * random.nextInt(suitNumber) + 1 + random.nextInt(5);
    }

    private int wildCard() {
        return random.nextInt(12) == 0 ? random.nextInt(70) - 10 : card(suits);
    }

    private int seed() {
        return random.nextInt(8) == 0 ? random.nextInt(2) * 65537 - 1 : random.nextInt(65536);
    }

    // ---- A call on both

    private String call(String name, Object... arguments) throws Exception {
        calls++;
        String got = outcome(x, name, arguments);
        String want = outcome(oracle, name, arguments);
        if (differs) {
            return want;
        }
        told.append(name).append(Arrays.toString(arguments)).append(" -> ").append(want).append('\n');
        if (!got.equals(want)) {
            differs = true;
            System.out.print(told);
            System.out.println("but the last one answered " + got);
        }
        return want;
    }

    private static String outcome(Object object, String name, Object... arguments) throws Exception {
        Class<?>[] types = new Class<?>[arguments.length];
        for (int index = 0; index < types.length; index++) {
            types[index] = arguments[index] instanceof Character ? char.class : int.class;
        }
        try {
            return String.valueOf(object.getClass().getMethod(name, types).invoke(object, arguments));
        } catch (InvocationTargetException thrown) {
            return "throws " + thrown.getCause().getClass().getName();
        }
    }
}
