import java.util.function.BiFunction;
import java.util.function.Supplier;

/** Promises 37 to 44, sentence by sentence. */
public final class EdgesOfFiguresTest {
    private static final String NOT_STARTED = "Throws `IllegalStateException` if the game was not started";
    private static final int[][] THREE = Laid.hands(Laid.hand(4, 12, 3, 11, 1), Laid.hand(22, 1, 15, 25, 2),
            Laid.hand(13, 14, 13, 14, 12));
    private static final String KINDS = "ndrwu";

    private final Said said = new Said();
    private final Check check = said.check();

    private EdgesOfFiguresTest() throws java.io.IOException {
    }

    public static void main(String[] args) throws java.io.IOException {
        EdgesOfFiguresTest all = new EdgesOfFiguresTest();
        all.hat();
        all.code();
        all.learns();
        all.best();
        all.checksum();
        all.keptShare();
        all.meanKinds();
        all.isSound();
        all.said.end();
    }

    private void noSuchPlayer(BiFunction<Hintworks, Integer, Object> call) {
        said.test("Throws `IndexOutOfBoundsException` if there is no such player", () -> {
            check.refused(Check.RANGE, Games::two, "a third of two", x -> call.apply(x, 2));
            check.refused(Check.RANGE, () -> Games.started(4, 5), "a fifth of four", x -> call.apply(x, 4));
            check.refused(Check.RANGE, Games::overByCards, "below, over", x -> call.apply(x, -1));
        });
    }

    // ---- Promises 37 to 39

    private void hat() {
        said.part("Promise 37: hat");
        said.test("Returns the hat of a player.", () -> {
            check.due("of the first", Games.two().hat(0), 31 % 8);
            check.due("of the second", Games.two().hat(1), 25 % 8);
            check.due("of the third", Laid.game("nnn", THREE).hat(2), 66 % 8);
        });
        said.playersOnly("- `player`: the player, from 0", Hintworks::hat);
        said.test("Returns the hat.", () -> {
            int[][] hands = Laid.hands(Laid.hand(1, 1, 1, 2, 3), Laid.hand(5, 4, 4, 13, 13));
            Hintworks x = Laid.game("nn", hands, 12);
            check.due("the least and the greatest", x.hat(0) + " " + x.hat(1), "0 7");
            check.due("of the hand then", Laid.acted(x, "p4").hat(0), 17 % 8);
            check.due("as the game is over", Games.overByCards().hat(0), 12 % 8);
        });
        said.startedOnly(NOT_STARTED, x -> x.hat(0));
        noSuchPlayer(Hintworks::hat);
    }

    private void code() {
        said.part("Promise 38: code");
        said.test("Returns what a giver of the code tells.", () -> {
            check.due("of two, the other hat", Games.two().code(0), 1);
            check.due("of three, the sum of two", Laid.game("nnn", THREE).code(0), 3);
        });
        said.playersOnly("- `giver`: the player", Hintworks::code);
        said.test("Returns the number, 0 to 7.", () -> {
            Hintworks x = Laid.game("nnn", THREE);
            check.due("7 and 2", x.code(1), 1);
            check.due("7 and 1", x.code(2), 0);
            check.due("7", Games.two().code(1), 7);
        });
        said.startedOnly(NOT_STARTED, x -> x.code(0));
        noSuchPlayer(Hintworks::code);
    }

    private void learns() {
        said.part("Promise 39: learns");
        said.test("Returns what a player learns by the code of another one.", () -> {
            check.due("of the first", Games.two().learns(0, 1), 1);
            check.due("of the second", Games.two().learns(1, 0), 7);
        });
        said.playersOnly("- `giver`: the player who gives it", (x, n) -> x.learns(n, n == 0 ? 1 : 0));
        said.playersOnly("- `player`: the player, from 0", (x, n) -> x.learns(n == 0 ? 1 : 0, n));
        said.test("Returns the own hat of the player.", () -> {
            Hintworks x = Laid.game("nnn", THREE);
            int[] hats = {7, 1, 2};
            for (int player = 0; player < 3; player++) {
                check.due("by the one behind", x.learns((player + 1) % 3, player), hats[player]);
                check.due("by the one ahead", x.learns((player + 2) % 3, player), hats[player]);
            }
        });
        said.startedOnly(NOT_STARTED, x -> x.learns(0, 1));
        said.test("Throws `IndexOutOfBoundsException` if there is no such player, for either", () -> {
            check.taken(() -> Games.started(3, 5), "the last two", x -> x.learns(2, 1));
            check.refused(Check.RANGE, () -> Games.started(3, 5), "the giver", x -> x.learns(3, 1));
            check.refused(Check.RANGE, () -> Games.started(3, 5), "the player", x -> x.learns(1, 3));
            check.refused(Check.RANGE, () -> Games.started(3, 5), "the giver, below", x -> x.learns(-1, 1));
            check.refused(Check.RANGE, () -> Games.started(3, 5), "the player, below", x -> x.learns(1, -1));
        });
        said.test("Throws `IllegalArgumentException` if both are the same", () -> {
            for (int player = 0; player < 4; player++) {
                int same = player;
                check.refused(Check.ARGUMENT, () -> Games.started(4, 5), "player " + player, x -> x.learns(same, same));
            }
            check.refused(Check.ARGUMENT, Games::overByStrikes, "over", x -> x.learns(1, 1));
        });
    }

    // ---- Promise 40

    private void best() {
        said.part("Promise 40: best");
        said.test("Returns the best score with all cards open.", () -> {
            check.due("in no turn", Games.two().best(0), 0);
            check.due("in one", Games.two().best(1), 1);
            check.due("in two", Games.two().best(2), 2);
        });
        said.numbers("- `turns`: how many turns, 0 to 2", Games::two, 0, 2, Check.ARGUMENT, Hintworks::best);
        said.test("Returns the score.", () -> {
            Hintworks x = Games.two("p4");
            check.due("with one played", x.best(0) + " " + x.best(1) + " " + x.best(2), "1 2 3");
            Hintworks whole = Games.overAsWhole();
            check.due("the greatest", whole.best(0) + " " + whole.best(1) + " " + whole.best(2), "10 10 10");
        });
        said.startedOnly(NOT_STARTED, x -> x.best(2));
        said.test("Throws `IllegalArgumentException` if a number is out of range", () -> {
            check.refused(Check.ARGUMENT, Games::overByStrikes, "over, above", x -> x.best(3));
            check.refused(Check.ARGUMENT, Games::overByCards, "over, below", x -> x.best(-1));
        });
    }

    // ---- Promise 41

    private static long sumOf(Hintworks x, int players) {
        long sum = 0;
        for (int player = 0; player < players; player++) {
            for (int place = 0; place < x.hand(player); place++) {
                sum = 31 * sum + x.cardAt(player, place);
            }
        }
        return sum;
    }

    private void checksum() {
        said.part("Promise 41: checksum");
        said.test("Returns a sum over all hands.", () -> {
            check.due("as worked out by hand", Games.two().checksum(), 116085511995356L);
            for (int players = 2; players <= 4; players++) {
                Hintworks x = Games.started(players, 5);
                check.due("of " + players, x.checksum(), sumOf(x, players));
                Laid.acted(x, "p0");
                check.due("as a card is drawn, of " + players, x.checksum(), sumOf(x, players));
            }
        });
        said.test("Returns 0 at first,", () -> {
            check.due("a new object", new Hintworks().checksum(), 0);
            check.due("not started", Games.laid(4, 5).checksum(), 0);
            check.due("not started, behind a game", Games.laidAgain().checksum(), 0);
        });
        said.test("then for each card of each hand, by players and places, 31 times itself plus the card.", () -> {
            Hintworks x = Laid.game("nn", Laid.hands(Games.TWO[1], Games.TWO[0]));
            check.due("the hands the other way round", x.checksum(), sumOf(x, 2));
            Hintworks moved = Games.two("p0");
            check.due("the newest is another one", moved.checksum() - Games.two().checksum(),
                    (13 - 4) * 31L * 31 * 31 * 31 * 31 * 31 * 31 * 31 * 31);
            Hintworks fewer = Games.overByCards();
            check.due("of hands of four and five", fewer.checksum(), sumOf(fewer, 2));
            check.due("a hint changes nothing", Games.two("r12 r04").checksum(), Games.two().checksum());
            Hintworks most = Laid.inOrder(4, "nnnnn", 45, 35, 25, 15, 44, 34, 24, 14, 44, 34, 24, 14, 43, 33, 23, 13);
            check.due("beyond the greatest long", most.checksum(), sumOf(most, 4));
        });
    }

    // ---- Promise 42

    private void keptShare() {
        said.part("Promise 42: keptShare");
        said.test("Returns the share of the hints that are kept.", () -> {
            check.due("open", Games.two("r11").keptShare(), 0.0f);
            check.due("kept", Games.two("r11 p1").keptShare(), 1.0f);
            check.due("broken", Games.two("r11 d1").keptShare(), 0.0f);
        });
        said.test("Returns their number divided by that of all, both converted to float.", () -> {
            check.due("one of two", Games.two("r11 p1 r12").keptShare(), 0.5f);
            check.due("one of three", Games.two("r11 p1 r12 r03").keptShare(), 1.0f / 3.0f);
            check.due("two of three", Games.two("r11 r04 r11 p1").keptShare(), 2.0f / 3.0f);
            check.due("one of six", Games.two("r11 r04 r12 r04 s11 r03 p0 p1").keptShare(), 1.0f / 6.0f);
            check.due("as the game is over", Games.two("r11 p1 p0 p0 p0").keptShare(), 1.0f);
        });
        said.test("Throws `ArithmeticException` if there are none", () -> {
            check.refused(Check.ARITHMETIC, Hintworks::new, "not started", Hintworks::keptShare);
            check.refused(Check.ARITHMETIC, Games::two, "started", Hintworks::keptShare);
            check.refused(Check.ARITHMETIC, Games::overByStrikes, "over", Hintworks::keptShare);
            check.refused(Check.ARITHMETIC, Games::laidAgain, "behind a game with hints", Hintworks::keptShare);
            check.taken(() -> Games.two("r12"), "one", Hintworks::keptShare);
        });
    }

    // ---- Promise 43

    private void meanKinds() {
        said.part("Promise 43: meanKinds");
        int[][] all = Laid.hands(Laid.hand(1, 1, 1, 2, 2), Laid.hand(3, 3, 4, 4, 5));
        said.test("Returns the mean number of kinds that cards of hands can be.", () -> {
            check.due("two and three", Laid.game("n", all).meanKinds(), 2.5);
            check.due("by a hint", Laid.acted(Laid.game("n", all), "r15").meanKinds(), (5 * 2 + 4 * 2 + 1) / 10.0);
        });
        said.test("Returns the sum divided by the number of cards, both converted to double.", () -> {
            check.due("of nine cards", Laid.acted(Laid.game("n", all), "p0").meanKinds(), (4 * 2 + 5 * 3) / 9.0);
            for (int players = 2; players <= 4; players++) {
                Hintworks x = Games.started(players, 5);
                int cards = 0;
                int kinds = 0;
                for (int player = 0; player < players; player++) {
                    for (int place = 0; place < x.hand(player); place++) {
                        cards++;
                        kinds += x.kinds(player, place);
                    }
                }
                check.due("of " + players, x.meanKinds(), (double) kinds / (double) cards);
            }
        });
        said.test("Throws `ArithmeticException` if there are no cards in hands", () -> {
            check.refused(Check.ARITHMETIC, Hintworks::new, "not started", Hintworks::meanKinds);
            check.refused(Check.ARITHMETIC, Games::laidAgain, "not started, behind a game", Hintworks::meanKinds);
            for (Supplier<Hintworks> over : Games.allOver()) {
                check.taken(over, "over", Hintworks::meanKinds);
            }
        });
    }

    // ---- Promise 44

    private void isSound() {
        said.part("Promise 44: isSound");
        said.test("Returns whether this holds.", () -> {
            check.due("not started", new Hintworks().isSound(), true);
            check.due("started", Games.two().isSound(), true);
            for (Supplier<Hintworks> over : Games.allOver()) {
                check.due("over", over.get().isSound(), true);
            }
            for (int seed = 0; seed < 60; seed++) {
                Hintworks x = new Hintworks();
                x.game(2 + seed % 3, 4, 997 * seed);
                x.setSuit(seed % 4, KINDS.charAt(seed % 5), 31 * seed);
                x.start();
                for (int turn = 0; turn < 60 && !x.isOver(); turn++) {
                    Laid.follow(x, x.advice());
                    check.due("in a game, seed " + seed, x.isSound(), true);
                }
            }
        });
    }
}
