import java.util.function.BiFunction;
import java.util.function.Supplier;

/** Promises 19 to 28, sentence by sentence. */
public final class EdgesOfAskingTest {
    private static final String PLAYER = "- `player`: the player, from 0";
    private static final String PLACE = "- `place`: the place in the hand, from 0, the newest one";
    private static final String NOT_STARTED = "Throws `IllegalStateException` if the game was not started";
    private static final int[][] DARK = Laid.hands(Laid.hand(1, 2, 3, 4, 5), Laid.hand(11, 12, 13, 14, 15));
    private static final int[][] ALL = Laid.hands(Laid.hand(1, 1, 1, 2, 2), Laid.hand(3, 3, 4, 4, 5));

    private final Said said = new Said();
    private final Check check = said.check();

    private EdgesOfAskingTest() throws java.io.IOException {
    }

    public static void main(String[] args) throws java.io.IOException {
        EdgesOfAskingTest all = new EdgesOfAskingTest();
        all.kinds();
        all.canBe();
        all.thinks();
        all.worlds();
        all.isPlayable();
        all.isUseless();
        all.isCritical();
        all.most();
        all.pace();
        all.chop();
        all.said.end();
    }

    private interface OfPlace {
        Object of(Hintworks x, int player, int place);
    }

    /** The numbers that a place of a hand is asked by, and the games in which it is there. */
    private void ofPlaces(OfPlace call) {
        said.playersOnly(PLAYER, (x, n) -> call.of(x, n, 0));
        said.placesOnly(PLACE, (x, n) -> call.of(x, 0, n));
        said.startedOnly(NOT_STARTED, x -> call.of(x, 0, 0));
        said.test("Throws `IndexOutOfBoundsException` if there is no such player or place", () -> {
            check.taken(Games::two, "the last of both", x -> call.of(x, 1, 4));
            check.refused(Check.RANGE, Games::two, "no such player", x -> call.of(x, 2, 4));
            check.refused(Check.RANGE, Games::two, "no such place", x -> call.of(x, 1, 5));
            check.refused(Check.RANGE, Games::two, "neither", x -> call.of(x, -1, -1));
            check.taken(Games::overByCards, "the last place of four", x -> call.of(x, 0, 3));
            check.refused(Check.RANGE, Games::overByCards, "a place that is empty", x -> call.of(x, 0, 4));
            check.taken(Games::overByCards, "the last place of five", x -> call.of(x, 1, 4));
        });
    }

    private void ofCards(BiFunction<Hintworks, Integer, Object> call) {
        said.test("- `card`: the card, 10 times its suit plus its rank", () -> {
            for (int card = 1; card <= 45; card++) {
                int told = card;
                if (card % 10 >= 1 && card % 10 <= 5) {
                    check.taken(() -> Games.started(2, 5), "card " + card, x -> call.apply(x, told));
                }
            }
        });
        said.test("Throws `IllegalArgumentException` if there is no such card", () -> {
            for (int card : new int[] {-1, 0, 6, 9, 10, 11, 15, 20, 21, Integer.MIN_VALUE, Integer.MAX_VALUE}) {
                check.refused(Check.ARGUMENT, () -> Games.started(2, 1), card + " of one suit",
                        x -> call.apply(x, card));
            }
            for (int card : new int[] {-1, 0, 6, 16, 26, 36, 40, 46, 50, 51, 55}) {
                check.refused(Check.ARGUMENT, () -> Games.started(2, 5), card + " of five suits",
                        x -> call.apply(x, card));
            }
        });
    }

    // ---- Promise 19

    private void kinds() {
        said.part("Promise 19: kinds");
        said.test("Returns how many kinds a card can be, for who holds it.", () -> {
            Hintworks x = Laid.game("dd", DARK);
            check.due("all that the other one does not hold", x.kinds(0, 0) + " " + x.kinds(1, 4), "5 5");
            check.due("by a hint", Laid.acted(x, "r11").kinds(1, 0) + " " + x.kinds(1, 1), "1 4");
            check.due("the other hand stays", x.kinds(0, 0), 5);
        });
        said.test("Returns the number of kinds.", () -> {
            check.due("1", Games.two("r12 r04 s10").kinds(1, 0), 1);
            check.due("2", Games.two("r12").kinds(1, 0), 2);
            int[][] some = Laid.hands(Laid.hand(1, 11, 21, 31, 41), Laid.hand(1, 2, 11, 21, 31));
            check.due("25", Laid.game("nnnnn", some).kinds(0, 0), 25);
            check.due("1 of all cards", Laid.acted(Laid.game("n", ALL), "r15").kinds(1, 4), 1);
            check.due("none whole, one suit", Laid.game("n", ALL).kinds(0, 0) + " " + Laid.game("n", ALL).kinds(1, 0),
                    "2 3");
        });
        ofPlaces(Hintworks::kinds);
    }

    // ---- Promise 20

    private void canBe() {
        said.part("Promise 20: canBe");
        said.test("Returns whether a card can be of a kind, for who holds it.", () -> {
            Hintworks x = Laid.game("dd", DARK);
            check.due("its own kind", x.canBe(0, 0, 1), true);
            check.due("another one of the hand", x.canBe(0, 0, 5), true);
            check.due("one of the other hand", x.canBe(0, 0, 11), false);
            check.due("one of the first hand, for the other one", x.canBe(1, 0, 1), false);
            check.due("one of the own hand, for the other one", x.canBe(1, 0, 15), true);
        });
        said.test("Returns whether it can.", () -> {
            Hintworks x = Games.two("r12");
            check.due("touched", x.canBe(1, 0, 2) && x.canBe(1, 0, 12), true);
            check.due("touched, of another rank", x.canBe(1, 0, 3), false);
            check.due("not touched", x.canBe(1, 1, 2) + " " + x.canBe(1, 1, 3), "false true");
            for (int place = 0; place < 5; place++) {
                check.due("the truth", x.canBe(0, place, Games.TWO[0][place]), true);
                int number = 0;
                for (int card = 1; card <= 15; card++) {
                    number += card != 10 && card % 10 >= 1 && card % 10 <= 5 && x.canBe(0, place, card) ? 1 : 0;
                }
                check.due("as many as kinds tells", number, x.kinds(0, place));
            }
        });
        ofPlaces((x, player, place) -> x.canBe(player, place, 1));
        ofCards((x, card) -> x.canBe(0, 0, card));
    }

    // ---- Promise 21

    private void thinks() {
        said.part("Promise 21: thinks");
        said.test("Returns how many kinds a card can be, as a player thinks that who holds it knows.", () -> {
            Hintworks two = Laid.game("dd", DARK);
            check.due("who sees the card", two.thinks(0, 1, 0), 10);
            check.due("who holds it", two.thinks(1, 1, 0), 5);
            check.due("by a hint", Laid.acted(two, "s11 s00").thinks(0, 1, 0), 5);
            check.due("to the other one", two.thinks(1, 0, 0), 5);
        });
        said.playersOnly("- `player`: the player who thinks", (x, n) -> x.thinks(n, 0, 0));
        said.playersOnly("- `other`: another player,", (x, n) -> x.thinks(1, n, 0));
        said.test("or the same", () -> {
            Hintworks x = Games.two("r12 r04");
            for (int player = 0; player < 2; player++) {
                for (int place = 0; place < 5; place++) {
                    check.due("the same knows", x.thinks(player, player, place), x.kinds(player, place));
                }
            }
        });
        said.placesOnly("- `place`: the place in the hand of the other one", (x, n) -> x.thinks(1, 0, n));
        said.test("of the other one", () -> {
            check.taken(() -> Laid.acted(Games.started(2, 1), "p0"), "five of the other one", x -> x.thinks(0, 1, 4));
            check.refused(Check.RANGE, () -> Laid.acted(Games.started(2, 1), "p0"), "four of the other one",
                    x -> x.thinks(1, 0, 4));
        });
        said.test("Returns the number of kinds.", () -> {
            Hintworks x = Games.two("r12 r04 s10");
            check.due("one", x.thinks(0, 1, 0), 1);
            Hintworks dark = Laid.acted(Laid.game("ddd", DARK, 21), "r11 r02 p0");
            check.due("less what both see", dark.thinks(0, 1, 0) + " " + dark.kinds(1, 0), "2 1");
        });
        said.startedOnly(NOT_STARTED, x -> x.thinks(0, 1, 0));
        said.test("Throws `IndexOutOfBoundsException` if there is no such player, for either, or place", () -> {
            check.taken(Games::two, "both", x -> x.thinks(1, 0, 4));
            check.refused(Check.RANGE, Games::two, "the first", x -> x.thinks(2, 0, 0));
            check.refused(Check.RANGE, Games::two, "the second", x -> x.thinks(0, 2, 0));
            check.refused(Check.RANGE, Games::two, "both the same", x -> x.thinks(2, 2, 0));
            check.refused(Check.RANGE, Games::two, "both the same, below", x -> x.thinks(-1, -1, 0));
            check.refused(Check.RANGE, Games::two, "the place", x -> x.thinks(0, 1, 5));
            check.refused(Check.RANGE, Games::two, "the place, of the same", x -> x.thinks(1, 1, -1));
        });
    }

    // ---- Promise 22

    private void worlds() {
        said.part("Promise 22: worlds");
        said.test("Returns how many worlds a hand has.", () -> {
            check.due("of the first", Laid.game("n", ALL).worlds(0), 10);
            check.due("of the second", Laid.game("n", ALL).worlds(1), 30);
            check.due("by a hint", Laid.acted(Laid.game("n", ALL), "r13").worlds(1), 3);
        });
        said.playersOnly(PLAYER, Hintworks::worlds);
        said.test("Returns the number of worlds.", () -> {
            check.due("one", Laid.acted(Laid.game("n", ALL), "r13 r01").worlds(0), 1);
            check.due("five kinds at five places", Laid.game("dd", DARK).worlds(0), 120);
            check.due("of a hand of four, as the game is over", Games.overByCards().worlds(0), 3);
            for (int seed = 0; seed < 20; seed++) {
                triesAll(2 + seed % 3, 3001 * seed);
            }
        });
        said.startedOnly(NOT_STARTED, x -> x.worlds(0));
        said.test("Throws `IndexOutOfBoundsException` if there is no such player", () -> {
            check.refused(Check.RANGE, Games::two, "a third of two", x -> x.worlds(2));
            check.refused(Check.RANGE, () -> Games.started(4, 5), "a fifth, too many worlds", x -> x.worlds(4));
        });
        said.test("Throws `UnsupportedOperationException` if the numbers of kinds of the places, multiplied, are more "
                + "than 200000", this::tooManyWorlds);
    }

    // At the start, and behind a hint: nothing is played or discarded.
    private void triesAll(int players, int seed) {
        Hintworks x = new Hintworks();
        x.game(players, 2, seed);
        x.start();
        for (int turn = 0; turn < 3; turn++) {
            for (int player = 0; player < players; player++) {
                int[] unseen = unseenBy(x, players, player);
                check.due("by trying all, seed " + seed, x.worlds(player), ways(x, player, 0, unseen));
            }
            x.hintRank((turn + 1) % players, x.cardAt((turn + 1) % players, 1) % 10);
        }
    }

    private static int[] unseenBy(Hintworks x, int players, int player) {
        int[] unseen = new int[16];
        for (int card : Decks.sorted("nn")) {
            unseen[card]++;
        }
        for (int other = 0; other < players; other++) {
            for (int place = 0; other != player && place < x.hand(other); place++) {
                unseen[x.cardAt(other, place)]--;
            }
        }
        return unseen;
    }

    private static long ways(Hintworks x, int player, int place, int[] unseen) {
        if (place == x.hand(player)) {
            return 1;
        }
        long number = 0;
        for (int card = 1; card <= 15; card++) {
            if (unseen[card] > 0 && x.canBe(player, place, card)) {
                unseen[card]--;
                number += ways(x, player, place + 1, unseen);
                unseen[card]++;
            }
        }
        return number;
    }

    private void tooManyWorlds() {
        Hintworks most = Laid.acted(seeded(2, 3582), "s13");
        check.due("the numbers of kinds multiplied", product(most, 1), 200000);
        check.taken(() -> Laid.acted(seeded(2, 3582), "s13"), "200000", x -> x.worlds(1));
        Supplier<Hintworks> tooMany = () -> {
            Hintworks x = new Hintworks();
            x.game(3, 4, 55714);
            x.start();
            return Laid.acted(x, "r12");
        };
        check.due("the numbers of kinds multiplied", product(tooMany.get(), 1), 202500);
        check.refused(Check.UNSUPPORTED, tooMany, "202500", x -> x.worlds(1));
        int[][] some = Laid.hands(Laid.hand(1, 11, 21, 31, 41), Laid.hand(1, 2, 11, 21, 31));
        Supplier<Hintworks> all = () -> Laid.game("nnnnn", some);
        check.due("the numbers of kinds multiplied", product(all.get(), 0), 25 * 25 * 25 * 25 * 25);
        check.refused(Check.UNSUPPORTED, all, "the greatest number", x -> x.worlds(0));
        check.refused(Check.UNSUPPORTED, () -> Games.started(4, 5), "of four cards", x -> x.worlds(3));
    }

    private static Hintworks seeded(int players, int seed) {
        Hintworks x = new Hintworks();
        x.game(players, 5, seed);
        x.start();
        return x;
    }

    private static long product(Hintworks x, int player) {
        long product = 1;
        for (int place = 0; place < x.hand(player); place++) {
            product *= x.kinds(player, place);
        }
        return product;
    }

    // ---- Promises 23 and 24

    private static Hintworks oneTold() {
        return Games.two("r11 r04");
    }

    private void isPlayable() {
        said.part("Promise 23: isPlayable");
        said.test("Returns whether a place is known to be played.", () -> {
            check.due("all kinds are next ones", oneTold().isPlayable(1, 1), true);
            check.due("not all kinds are next ones", oneTold().isPlayable(1, 0), false);
            check.due("a next one, not known", Games.two().isPlayable(1, 1), false);
        });
        ofPlaces(Hintworks::isPlayable);
        said.test("Returns whether it is, for who holds it.", () -> {
            int[][] hands = Laid.hands(Laid.hand(11, 12, 3, 4, 1), Laid.hand(14, 1, 15, 5, 2));
            Hintworks suit = Laid.acted(Laid.game("nn", hands), "p4 r02 s10");
            check.due("who holds it can't tell", suit.isPlayable(1, 4), false);
            Hintworks seen = Laid.game("dn", Laid.hands(Laid.hand(2, 3, 4, 5, 13), Laid.hand(1, 11, 11, 11, 15)));
            check.due("all others are seen", Laid.acted(seen, "s10").isPlayable(1, 0), true);
            check.due("who holds it is not told", seen.isPlayable(1, 1), false);
        });
    }

    private void isUseless() {
        said.part("Promise 24: isUseless");
        said.test("Returns whether a place is known to be useless.", () -> {
            check.due("nothing is played", oneTold().isUseless(1, 1), false);
            check.due("one of two kinds is played", Laid.acted(oneTold(), "p4").isUseless(1, 1), false);
            Hintworks both = Laid.acted(oneTold(), "p4 r01 p4");
            check.due("both are played", both.score() + " " + both.isUseless(1, 1), "2 true");
        });
        ofPlaces(Hintworks::isUseless);
        said.test("Returns whether it is, for who holds it.", () -> {
            Hintworks seen = Laid.game("dn", Laid.hands(Laid.hand(2, 3, 4, 11, 13), Laid.hand(12, 5, 11, 11, 15)));
            check.due("can be played still", Laid.acted(seen, "s10").isUseless(1, 1), false);
            Hintworks lost = Laid.acted(seen, "r04 r15 d0");
            check.due("nothing is lost", lost.isUseless(1, 1), false);
            check.due("a card ahead of it is lost", Laid.acted(lost, "p0").isUseless(1, 1), true);
            check.due("another one", lost.isUseless(1, 2), false);
        });
    }

    // ---- Promise 25

    private static String criticals(Hintworks x, int suit) {
        StringBuilder ranks = new StringBuilder();
        for (int rank = 1; rank <= 5; rank++) {
            ranks.append(x.isCritical(10 * suit + rank) ? String.valueOf(rank) : "");
        }
        return ranks.toString();
    }

    private void isCritical() {
        said.part("Promise 25: isCritical");
        said.test("Returns whether a card is critical.", () -> {
            check.due("at first", criticals(new Hintworks(), 0), "5");
            String[] due = {"5", "12345", "1", "5", "5"};
            for (int suit = 0; suit < 5; suit++) {
                check.due("of the kind " + "ndrwu".charAt(suit), criticals(Laid.deck(2, "ndrwu"), suit), due[suit]);
            }
        });
        ofCards(Hintworks::isCritical);
        said.test("Returns whether it is.", () -> {
            check.due("one copy discarded", criticals(Games.two("p0"), 0), "45");
            check.due("both copies discarded", criticals(Games.two("r12 d0 r12 d4"), 0), "");
            check.due("a 5 discarded", criticals(Games.two("r12 d3"), 0), "");
            check.due("of the other suit", criticals(Games.two("r12 d3"), 1), "5");
            check.due("as the game is over", criticals(Games.overAsWhole(), 0), "");
        });
    }

    // ---- Promises 26 and 27

    private void most() {
        said.part("Promise 26: most");
        said.test("Returns the greatest score that the discarded cards leave.", () -> {
            check.due("one suit", new Hintworks().most(), 5);
            check.due("five suits", Games.laid(4, 5).most(), 25);
            check.due("one copy of two discarded", Games.two("p0").most(), 10);
            check.due("both copies of 2 discarded", Games.two("r12 d0 r12 d4").most(), 6);
            check.due("a 5 discarded", Games.two("r12 d3").most(), 9);
            check.due("both 5 discarded", Games.two("r12 d3 r15 d3").most(), 8);
            int[][] down = Laid.hands(Laid.hand(5, 4, 3, 2, 1), Laid.hand(11, 12, 13, 14, 15));
            check.due("1 of a reversed suit discarded", Laid.acted(Laid.game("rd", down), "p4").most(), 9);
            check.due("5 of a reversed suit discarded", Laid.acted(Laid.game("rd", down), "r15 r05 d0").most(), 10);
            check.due("the first of a dark suit discarded", Laid.acted(Laid.game("rd", down), "r15 d0").most(), 5);
            check.due("all of them discarded", Laid.acted(Laid.game("rd", down), "r15 d0 p4").most(), 4);
        });
        said.test("Returns the score.", () -> {
            check.due("played ahead of it", Games.two("p4 p0").most(), 10);
            check.due("all played", Games.overAsWhole().most(), 10);
            check.due("what is lost behind what is played", Games.two("p4 p4 r11 p3").most(), 9);
        });
    }

    private void pace() {
        said.part("Promise 27: pace");
        said.test("Returns the pace: the score, the cards of the deck and the players together, less the greatest "
                + "score that is left.", () -> {
            check.due("one suit", new Hintworks().pace(), 10 + 2 - 5);
            check.due("five suits of four players", Games.laid(4, 5).pace(), 50 + 4 - 25);
            check.due("started", Games.started(4, 5).pace(), 34 + 4 - 25);
            check.due("of three", Games.started(3, 5).pace(), 35 + 3 - 25);
            check.due("a play", Games.two("p4").pace(), 1 + 9 + 2 - 10);
            check.due("a strike", Games.two("p0").pace(), 9 + 2 - 10);
            check.due("a hint", Games.two("r12").pace(), 10 + 2 - 10);
        });
        said.test("Returns the pace.", () -> {
            check.due("a card lost", Games.two("r12 d3").pace(), 9 + 2 - 9);
            check.due("below 0", Games.started(2, 1).pace(), 2 - 5);
            check.due("all played", Games.overAsWhole().pace(), 10 + 0 + 2 - 10);
        });
    }

    // ---- Promise 28

    private void chop() {
        said.part("Promise 28: chop");
        said.test("Returns the chop of a hand.", () -> {
            check.due("of the first", Games.two("r12").chop(0), 4);
            check.due("of the second", Games.two("r12").chop(1), 3);
        });
        said.playersOnly(PLAYER, Hintworks::chop);
        said.test("Returns its place.", () -> {
            check.due("the oldest", Games.two().chop(1), 4);
            check.due("the oldest of four", Games.started(4, 2).chop(3), 3);
            check.due("the oldest of four left", Games.overByCards().chop(0), 3);
            check.due("the newest", Games.two("r15 r04 r11 r04 r12 d2").chop(1), 0);
        });
        said.startedOnly(NOT_STARTED, x -> x.chop(1));
        said.test("Throws `IndexOutOfBoundsException` if there is no such player", () -> {
            check.refused(Check.RANGE, Games::two, "a third of two", x -> x.chop(2));
            check.refused(Check.RANGE, () -> Games.started(3, 2), "a fourth of three", x -> x.chop(3));
        });
        said.test("Throws `NoSuchElementException` if all cards are touched", () -> {
            check.refused(Check.ELEMENT, () -> Games.two("r15 r04 r11 r04 r12"), "all five", x -> x.chop(1));
            check.taken(() -> Games.two("r15 r04 r11 r04"), "all but two", x -> x.chop(1));
            check.taken(() -> Games.two("r15 r04 r12 r04"), "all but one", x -> x.chop(1));
            check.taken(() -> Games.two("r15 r04 r11 r04 r12"), "of the other hand", x -> x.chop(0));
            Supplier<Hintworks> one = () -> Laid.acted(Laid.inOrder(2, "n"), "s10");
            check.refused(Check.ELEMENT, one, "all by one hint", x -> x.chop(1));
        });
    }
}
