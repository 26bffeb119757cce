import java.util.List;
import java.util.function.Supplier;

/** Promises 1 to 14, sentence by sentence. */
public final class EdgesOfGamesTest {
    private final Said said = new Said();
    private final Check check = said.check();

    private EdgesOfGamesTest() throws java.io.IOException {
    }

    public static void main(String[] args) throws java.io.IOException {
        EdgesOfGamesTest all = new EdgesOfGamesTest();
        all.newObject();
        all.game();
        all.setSuit();
        all.lay();
        all.start();
        all.deck();
        all.turn();
        all.cardAt();
        all.hand();
        all.clues();
        all.strikes();
        all.score();
        all.isOver();
        all.discarded();
        all.said.end();
    }

    // ---- Promise 1

    private void newObject() {
        said.part("Promise 1: A new object");
        said.test("`Hintworks()`: Creates a game of two players", () -> {
            check.due("the second player", new Hintworks().hand(1), 0);
            check.refused(Check.RANGE, Hintworks::new, "a third player", x -> x.hand(2));
        });
        said.test("and one suit", () -> {
            check.due("the last card of it", new Hintworks().discarded(5), 0);
            check.refused(Check.ARGUMENT, Hintworks::new, "a second suit", x -> x.discarded(11));
            check.due("its greatest score", new Hintworks().most(), 5);
        });
        said.test("with the seed 0,", () -> {
            Decks.due(check, "its deck", new Hintworks(), List.of(4, 2, 1, 3, 2, 5, 4, 1, 1, 3));
            String course = Snapshot.courseOf(new Hintworks());
            check.due("as a game of the seed 0", course, Snapshot.courseOf(Games.laid(2, 1)));
        });
        said.test("not started.", () -> {
            check.refused(Check.STATE, Hintworks::new, "no turn", Hintworks::turn);
            check.taken(Hintworks::new, "the start", Hintworks::start);
        });
    }

    // ---- Promise 2

    private void game() {
        said.part("Promise 2: game");
        said.test("Lays a new game; nothing of the one before stays.", this::nothingStays);
        said.numbers("- `players`: how many, 2 to 4", Hintworks::new, 2, 4, Check.ARGUMENT, (x, n) -> x.game(n, 1, 0));
        said.numbers("- `suits`: how many, 1 to 5", Hintworks::new, 1, 5, Check.ARGUMENT, (x, n) -> x.game(2, n, 0));
        said.numbers("- `seed`: the seed, 0 to 65535", Hintworks::new, 0, 65535, Check.ARGUMENT,
                (x, n) -> x.game(2, 1, n));
        said.test("Returns how many cards the deck has.", () -> {
            for (int suits = 1; suits <= 5; suits++) {
                check.due("of " + suits + " suits", new Hintworks().game(4, suits, 65535), 10 * suits);
            }
            check.due("as a suit was dark", Laid.deck(2, "d").game(2, 1, 0), 10);
            check.due("as cards were drawn", Games.two("p4").game(3, 2, 0), 20);
        });
        said.test("Throws `IllegalArgumentException` if a number is out of range", () -> {
            for (int players : new int[] {1, 2, 4, 5}) {
                for (int suits : new int[] {0, 1, 5, 6}) {
                    for (int seed : new int[] {-1, 0, 65535, 65536}) {
                        oneGame(players, suits, seed);
                    }
                }
            }
            check.refused(Check.ARGUMENT, () -> Games.two("r12"), "in the course of a game", x -> x.game(2, 2, -1));
            check.refused(Check.ARGUMENT, Games::overByCards, "as it is over", x -> x.game(5, 2, 0));
        });
    }

    private void oneGame(int players, int suits, int seed) {
        boolean fits = players >= 2 && players <= 4 && suits >= 1 && suits <= 5 && seed >= 0 && seed <= 65535;
        String what = players + " players, " + suits + " suits, seed " + seed;
        if (fits) {
            check.taken(Hintworks::new, what, x -> x.game(players, suits, seed));
        } else {
            check.refused(Check.ARGUMENT, Hintworks::new, what, x -> x.game(players, suits, seed));
        }
    }

    private void nothingStays() {
        int[][] hands = Laid.hands(Laid.hand(4, 12, 3, 11, 5), Laid.hand(2, 1, 15, 5, 2));
        Hintworks strikes = Laid.acted(Laid.game("rw", hands, 14, 13, 14), "r12 p0 p4 d1 r12 p1 p1 p1");
        check.due("it is over", strikes.isOver(), true);
        for (Hintworks before : List.of(strikes, Games.overAsWhole(), Games.overByCards(), Games.two("r12 r01 p4 d0"),
                Games.started(4, 5))) {
            before.game(3, 3, 4711);
            Hintworks fresh = new Hintworks();
            fresh.game(3, 3, 4711);
            check.due("as on a new object", Snapshot.courseOf(before), Snapshot.courseOf(fresh));
        }
        Hintworks laid = Laid.deck(2, "nd", 15, 14, 13);
        laid.game(2, 2, 5);
        Decks.due(check, "nothing that was laid", laid, Decks.shuffled("nn", 5));
    }

    // ---- Promise 3

    private void setSuit() {
        said.part("Promise 3: setSuit");
        said.test("Sets the kind of a suit;", () -> {
            for (char kind : "ndrwu".toCharArray()) {
                check.due("of the kind " + kind, kindOf(kind), kind);
            }
            check.due("the last one set", Laid.deck(2, "d").setSuit(0, 'r', 0), 10);
        });
        said.test("the deck is laid anew, with the seed told.", () -> {
            Hintworks x = Laid.deck(2, "nn", 15, 14, 13);
            x.setSuit(1, 'r', 1234);
            Decks.due(check, "with 1234", x, Decks.shuffled("nr", 1234));
            x.setSuit(0, 'd', 4321);
            Decks.due(check, "with 4321", x, Decks.shuffled("dr", 4321));
            x.lay(0, x.lay(1, 13));
            x.setSuit(0, 'd', 7);
            Decks.due(check, "of the kind as it was", x, Decks.shuffled("dr", 7));
        });
        said.test("- `suit`: the suit", () -> {
            for (int suit = 0; suit < 5; suit++) {
                Hintworks x = Games.laid(2, 5);
                x.setSuit(suit, 'd', 9);
                String kinds = "nnnnn".substring(0, suit) + "d" + "nnnnn".substring(suit + 1);
                Decks.due(check, "the suit " + suit, x, Decks.shuffled(kinds, 9));
            }
        });
        said.test("- `kind`: 'n', 'd', 'r', 'w' or 'u'", this::allKindsOfSuits);
        said.numbers("- `seed`: the seed, 0 to 65535", Hintworks::new, 0, 65535, Check.ARGUMENT,
                (x, n) -> x.setSuit(0, 'd', n));
        said.test("Returns how many cards the deck has.", () -> {
            Hintworks x = Games.laid(2, 2);
            check.due("one is dark", x.setSuit(0, 'd', 0), 15);
            check.due("both are dark", x.setSuit(1, 'd', 0), 10);
            check.due("one is reversed", x.setSuit(0, 'r', 0), 15);
            check.due("none is dark", x.setSuit(1, 'w', 0) + x.setSuit(0, 'u', 0) + x.setSuit(0, 'n', 0), 60);
        });
        said.test("Throws `IndexOutOfBoundsException` if there is no such suit", () -> {
            for (int suit : new int[] {-1, 2, 5, Integer.MIN_VALUE, Integer.MAX_VALUE}) {
                check.refused(Check.RANGE, () -> Games.laid(2, 2), "suit " + suit, x -> x.setSuit(suit, 'd', 0));
            }
            check.refused(Check.RANGE, Hintworks::new, "the second of one", x -> x.setSuit(1, 'd', 0));
            check.refused(Check.RANGE, () -> Games.laid(2, 5), "the sixth of five", x -> x.setSuit(5, 'd', 0));
            check.taken(() -> Games.laid(2, 2), "the last of two", x -> x.setSuit(1, 'd', 0));
        });
        said.test("Throws `IllegalArgumentException` if there is no such kind, or the seed is out of range", () -> {
            check.refused(Check.ARGUMENT, Hintworks::new, "no such kind", x -> x.setSuit(0, 'x', 0));
            check.refused(Check.ARGUMENT, Hintworks::new, "no such seed", x -> x.setSuit(0, 'd', 65536));
            check.refused(Check.ARGUMENT, Hintworks::new, "neither", x -> x.setSuit(0, 'x', -1));
        });
        said.test("Throws `IllegalStateException` if the game was started", () -> {
            check.refused(Check.STATE, () -> Games.started(2, 2), "at the start", x -> x.setSuit(0, 'd', 0));
            check.refused(Check.STATE, () -> Games.two("r12"), "in its course", x -> x.setSuit(0, 'n', 0));
            for (Supplier<Hintworks> over : Games.allOver()) {
                check.refused(Check.STATE, over, "over", x -> x.setSuit(0, 'd', 0));
            }
        });
    }

    private void allKindsOfSuits() {
        for (int sign = 0; sign < 300; sign++) {
            char kind = (char) sign;
            if ("ndrwu".indexOf(kind) >= 0) {
                check.taken(Hintworks::new, "kind " + sign, x -> x.setSuit(0, kind, 0));
            } else {
                check.refused(Check.ARGUMENT, Hintworks::new, "kind " + sign, x -> x.setSuit(0, kind, 0));
            }
        }
        check.refused(Check.ARGUMENT, Hintworks::new, "the last sign", x -> x.setSuit(0, '\uffff', 0));
        check.refused(Check.ARGUMENT, Hintworks::new, "n and 65280", x -> x.setSuit(0, (char) ('n' + 65280), 0));
    }

    /** What a suit shows itself to be: by its copies, by whether it is told, by whether other hints touch it. */
    private static char kindOf(char kind) {
        Hintworks x = Laid.deck(2, "nn" + kind);
        boolean isDark = x.deck() == 25;
        boolean isReversed = Decks.copies(x, 25) == 3;
        Hintworks y = Laid.game("nn" + kind, Laid.hands(Laid.hand(1, 2, 3, 4, 5), Laid.hand(11, 21, 22, 23, 24)));
        boolean isTold = !Check.outcome(() -> y.hintSuit(1, 2)).startsWith("throws");
        Hintworks z = Laid.game("nn" + kind, Laid.hands(Laid.hand(1, 2, 3, 4, 5), Laid.hand(11, 21, 22, 23, 24)));
        boolean isOfAll = z.hintSuit(1, 1) == 5;
        char told = isDark ? 'd' : isReversed ? 'r' : 'n';
        return isTold ? told : isOfAll ? 'w' : 'u';
    }

    // ---- Promise 4

    private void lay() {
        said.part("Promise 4: lay");
        said.test("Lays the deck at a place as wanted.", () -> {
            Hintworks x = new Hintworks();
            x.lay(2, 5);
            Decks.due(check, "a 5 laid to the place 2", x, List.of(4, 2, 5, 3, 2, 1, 4, 1, 1, 3));
        });
        said.test("- `place`: the place, from 0", () -> {
            check.taken(Hintworks::new, "the first", x -> x.lay(0, 1));
            check.taken(Hintworks::new, "the last", x -> x.lay(9, 3));
            check.taken(() -> Games.laid(2, 5), "the last of five suits",
                    x -> x.lay(49, Decks.shuffled("nnnnn", 0).get(49)));
        });
        said.test("- `card`: the card, 10 times its suit plus its rank", () -> {
            for (int card : new int[] {1, 5, 11, 15, 41, 45}) {
                check.taken(() -> Games.laid(2, 5), "card " + card, x -> x.lay(0, card));
            }
        });
        said.test("Returns the card that was there.", () -> {
            check.due("another one", new Hintworks().lay(0, 3), 4);
            check.due("the same", new Hintworks().lay(0, 4), 4);
            check.due("the last place", new Hintworks().lay(9, 3), 3);
        });
        said.test("Throws `IndexOutOfBoundsException` if there is no such place", () -> {
            for (int place : new int[] {-1, 10, 50, Integer.MIN_VALUE, Integer.MAX_VALUE}) {
                check.refused(Check.RANGE, Hintworks::new, "place " + place, x -> x.lay(place, 1));
            }
            check.refused(Check.RANGE, () -> Laid.deck(2, "d"), "behind a dark suit", x -> x.lay(5, 1));
            check.refused(Check.RANGE, () -> Games.laid(2, 5), "behind five suits", x -> x.lay(50, 1));
        });
        said.test("Throws `IllegalArgumentException` if there is no such card", () -> {
            for (int card : new int[] {-1, 0, 6, 9, 10, 11, 15, 51, Integer.MIN_VALUE, Integer.MAX_VALUE}) {
                check.refused(Check.ARGUMENT, Hintworks::new, "card " + card, x -> x.lay(0, card));
            }
            for (int card : new int[] {20, 26, 40, 46, 50, 51}) {
                check.refused(Check.ARGUMENT, () -> Games.laid(2, 5), "card " + card, x -> x.lay(0, card));
            }
        });
        said.test("Throws `IllegalStateException` if the game was started", () -> {
            check.refused(Check.STATE, () -> Games.started(2, 2), "a place that is drawn", x -> x.lay(0, 1));
            check.refused(Check.STATE, () -> Games.started(2, 2), "a place of the deck", x -> x.lay(19, 1));
            for (Supplier<Hintworks> over : Games.allOver()) {
                check.refused(Check.STATE, over, "over", x -> x.lay(0, 1));
            }
        });
        said.test("Throws `NoSuchElementException` if there is no such card from there on", () -> {
            check.taken(Hintworks::new, "at its place", x -> x.lay(5, 5));
            check.refused(Check.ELEMENT, Hintworks::new, "one place behind it", x -> x.lay(6, 5));
            check.refused(Check.ELEMENT, Hintworks::new, "at the last place", x -> x.lay(9, 1));
            check.taken(Hintworks::new, "at the last one of three", x -> x.lay(8, 1));
        });
    }

    // ---- Promise 5

    private void start() {
        said.part("Promise 5: start");
        said.test("Starts the game.", () -> {
            Hintworks x = Games.laid(3, 2);
            check.due("ahead of it", x.hand(0) + " " + Check.outcome(x::turn),
                    "0 throws java.lang.IllegalStateException");
            x.start();
            check.due("behind it", x.hand(0) + " " + x.turn(), "5 0");
        });
        said.test("Returns how many cards are left in the deck.", () -> {
            check.due("two players, one suit", Games.laid(2, 1).start(), 0);
            check.due("two players, five suits", Games.laid(2, 5).start(), 40);
            check.due("three players, two suits", Games.laid(3, 2).start(), 5);
            check.due("four players, two suits", Games.laid(4, 2).start(), 4);
            check.due("four players, five suits", Games.laid(4, 5).start(), 34);
        });
        said.test("Throws `IllegalStateException` if it was started", () -> {
            check.refused(Check.STATE, () -> Games.started(2, 2), "at the start", Hintworks::start);
            check.refused(Check.STATE, () -> Games.started(2, 1), "with no card left", Hintworks::start);
            check.refused(Check.STATE, () -> Games.two("p4"), "in its course", Hintworks::start);
            for (Supplier<Hintworks> over : Games.allOver()) {
                check.refused(Check.STATE, over, "over", Hintworks::start);
            }
        });
        said.test("Throws `UnsupportedOperationException` if the deck has too few cards", () -> {
            tooFew("5 cards for 2", 2, "d");
            tooFew("10 cards for 3", 3, "n");
            tooFew("10 dark cards for 3", 3, "dd");
            tooFew("5 cards for 4", 4, "d");
            tooFew("15 cards for 4", 4, "nd");
            tooFew("15 dark cards for 4", 4, "ddd");
            enough("10 cards for 2", 2, "dd");
            enough("15 cards for 3", 3, "nd");
            enough("20 cards for 4", 4, "dddd");
        });
    }

    private void tooFew(String what, int players, String kinds) {
        check.refused(Check.UNSUPPORTED, () -> Laid.deck(players, kinds), what, Hintworks::start);
    }

    private void enough(String what, int players, String kinds) {
        check.taken(() -> Laid.deck(players, kinds), what, Hintworks::start);
    }

    // ---- Promise 6

    private void deck() {
        said.part("Promise 6: deck");
        said.test("Returns how many cards are left in the deck.", () -> {
            check.due("ahead of the start", Games.laid(2, 5).deck() + " " + Laid.deck(2, "d").deck(), "50 5");
            check.due("at the start", Games.started(2, 5).deck() + " " + Games.started(4, 2).deck(), "40 4");
            check.due("behind a play", Games.two("p4").deck(), 9);
            check.due("behind a strike", Games.two("p0").deck(), 9);
            check.due("behind a hint", Games.two("r12").deck(), 10);
            check.due("behind a discard", Games.two("r12 d0").deck(), 9);
        });
        said.test("Returns the number of cards.", () -> {
            Hintworks x = Laid.inOrder(2, "nd", 1, 2, 3, 4, 5, 11, 12, 13, 14, 15);
            for (int left = 5; left >= 0; left--) {
                check.due("left", x.deck(), left);
                x.play(4);
            }
            check.due("none left, another turn", x.deck(), 0);
            check.due("none at the start", Games.started(2, 1).deck(), 0);
        });
    }

    // ---- Promise 7

    private void turn() {
        said.part("Promise 7: turn");
        said.test("Returns whose turn it is.", () -> {
            Hintworks x = Games.started(4, 5);
            for (int turn = 0; turn < 9; turn++) {
                check.due("turn " + turn, x.turn(), turn % 4);
                Laid.follow(x, x.advice());
            }
        });
        said.test("Returns the player.", () -> {
            check.due("the first of two", Games.two("p4 p0").turn(), 0);
            check.due("the second of two", Games.two("p4").turn(), 1);
            check.due("the last of three", Laid.acted(Games.started(3, 5), "p0 p0").turn(), 2);
        });
        said.turnsOnly("Throws `IllegalStateException` if the game was not started, or is over", Hintworks::turn);
    }

    // ---- Promise 8

    private void cardAt() {
        said.part("Promise 8: cardAt");
        said.test("Returns a card of a hand.", () -> {
            for (int player = 0; player < 2; player++) {
                for (int place = 0; place < 5; place++) {
                    check.due(player + " " + place, Games.two().cardAt(player, place), Games.TWO[player][place]);
                }
            }
        });
        said.playersOnly("- `player`: the player, from 0", (x, n) -> x.cardAt(n, 0));
        said.placesOnly("- `place`: the place in the hand, from 0, the newest one", (x, n) -> x.cardAt(0, n));
        said.test("the newest one", () -> check.due("drawn", Games.two("p2").cardAt(0, 0), 13));
        said.test("Returns the card.", () -> {
            check.due("the least one", Laid.inOrder(2, "nnnnn", 1, 45).cardAt(0, 4), 1);
            check.due("the greatest one", Laid.inOrder(2, "nnnnn", 1, 45).cardAt(1, 4), 45);
            check.due("as the game is over", Games.overByStrikes().cardAt(1, 4), 2);
        });
        said.startedOnly("Throws `IllegalStateException` if the game was not started", x -> x.cardAt(0, 0));
        said.test("Throws `IndexOutOfBoundsException` if there is no such player or place", () -> {
            check.refused(Check.RANGE, () -> Games.started(2, 2), "a third of two", x -> x.cardAt(2, 0));
            check.refused(Check.RANGE, () -> Games.started(4, 2), "a fifth place of four", x -> x.cardAt(0, 4));
            check.taken(() -> Games.started(4, 2), "the fourth place of four", x -> x.cardAt(3, 3));
            check.refused(Check.RANGE, Games::overByCards, "a place that is empty", x -> x.cardAt(0, 4));
            check.taken(Games::overByCards, "the last place", x -> x.cardAt(0, 3));
        });
    }

    // ---- Promise 9

    private void hand() {
        said.part("Promise 9: hand");
        said.test("Returns how many cards a hand has.", () -> {
            check.due("of two", Games.started(2, 1).hand(0), 5);
            check.due("of four", Games.started(4, 2).hand(3), 4);
            check.due("behind a play and a draw", Games.two("p4").hand(0), 5);
            check.due("behind a play with no draw", Laid.acted(Games.started(2, 1), "p0").hand(0), 4);
            Hintworks discarded = Laid.acted(Laid.inOrder(2, "n", Games.ONE_SUIT), "r12 d0");
            check.due("behind a discard with no draw", discarded.hand(1) + " " + discarded.hand(0), "4 5");
        });
        said.numbers("- `player`: the player, from 0", () -> Games.started(4, 2), 0, 3, Check.RANGE, Hintworks::hand);
        said.test("Returns the number of cards, 0 ahead of the start.", () -> {
            for (int player = 0; player < 4; player++) {
                check.due("ahead of the start", Games.laid(4, 5).hand(player), 0);
            }
            Hintworks again = Games.two("p4");
            again.game(2, 2, 0);
            check.due("ahead of the start of a game behind another", again.hand(0) + again.hand(1), 0);
        });
        said.test("Throws `IndexOutOfBoundsException` if there is no such player", () -> {
            for (int players = 2; players <= 4; players++) {
                int number = players;
                check.taken(() -> Games.laid(number, 5), "the last of " + players, x -> x.hand(number - 1));
                check.refused(Check.RANGE, () -> Games.laid(number, 5), "one behind " + players, x -> x.hand(number));
                check.refused(Check.RANGE, () -> Games.started(number, 5), "started, " + players, x -> x.hand(number));
                check.refused(Check.RANGE, () -> Games.laid(number, 5), "one ahead", x -> x.hand(-1));
            }
        });
    }

    // ---- Promises 10 to 12

    private void clues() {
        said.part("Promise 10: clues");
        said.test("Returns how many clues there are.", () -> {
            check.due("ahead of the start", new Hintworks().clues(), 8);
            check.due("at the start", Games.started(2, 2).clues(), 8);
            check.due("behind a play, a strike", Games.two("p4 p2").clues(), 8);
        });
        said.test("Returns the number of clues.", () -> {
            Hintworks x = Games.two();
            for (int left = 7; left >= 0; left--) {
                Laid.acted(x, left % 2 == 1 ? "r12" : "r04");
                check.due("behind a hint", x.clues(), left);
            }
            for (int clues = 1; clues <= 8; clues++) {
                x.discard(0);
                check.due("behind a discard", x.clues(), clues);
            }
        });
    }

    private void strikes() {
        said.part("Promise 11: strikes");
        said.test("Returns how many strikes there are.", () -> {
            check.due("ahead of the start", new Hintworks().strikes(), 0);
            check.due("behind plays that fit", Games.two("p4 p0").strikes(), 0);
            check.due("behind hints and a discard", Games.two("r12 d0 r12").strikes(), 0);
        });
        said.test("Returns the number of strikes.", () -> {
            check.due("one", Games.two("p0").strikes(), 1);
            check.due("two", Games.two("p0 p2").strikes(), 2);
            check.due("three", Games.two("p0 p2 p1").strikes(), 3);
        });
    }

    private void score() {
        said.part("Promise 12: score");
        said.test("Returns the score.", () -> {
            check.due("ahead of the start", new Hintworks().score(), 0);
            check.due("one", Games.two("p4").score(), 1);
            check.due("two", Games.two("p4 p0").score(), 2);
            check.due("of two suits", Games.two("p4 p0 p4").score(), 3);
            check.due("with strikes", Games.two("p4 p2 p0").score(), 1);
            check.due("of all cards", Games.overAsWhole().score(), 10);
            check.due("over by strikes", Laid.acted(Games.two(), "p4 p2 p0 p3").score(), 1);
        });
    }

    // ---- Promise 13

    private void isOver() {
        said.part("Promise 13: isOver");
        said.test("Returns whether the game is over.", () -> {
            for (Supplier<Hintworks> over : Games.allOver()) {
                check.due("over", over.get().isOver(), true);
            }
            check.due("ahead of the start", new Hintworks().isOver(), false);
            check.due("at the start with no card left", Games.started(2, 1).isOver(), false);
            check.due("two strikes", Games.two("p0 p2").isOver(), false);
        });
        said.test("Returns whether it is.", () -> {
            Hintworks x = Games.overAsWhole();
            x.game(2, 2, 0);
            check.due("a new game", x.isOver(), false);
            x.start();
            check.due("a new game, started", x.isOver(), false);
        });
    }

    // ---- Promise 14

    private void discarded() {
        said.part("Promise 14: discarded");
        said.test("Returns how many copies of a card are discarded.", () -> {
            check.due("by a discard", Games.two("r12 d2").discarded(15), 1);
            check.due("by a strike", Games.two("p0").discarded(4), 1);
            check.due("not by a play", Games.two("p4").discarded(1), 0);
            check.due("another card", Games.two("r12 d2").discarded(5), 0);
        });
        said.numbers("- `card`: the card, 10 times its suit plus its rank", () -> Games.laid(2, 5), 1, 45,
                Check.ARGUMENT, Hintworks::discarded);
        said.test("Returns the number of copies.", () -> {
            int[][] ones = Laid.hands(Laid.hand(1, 1, 1, 4, 4), Laid.hand(11, 12, 13, 14, 15));
            Hintworks x = Laid.acted(Laid.game("nn", ones), "r11");
            check.due("none", x.discarded(1), 0);
            Laid.acted(x, "r04 r12 r04 r13 r04");
            for (int copies = 1; copies <= 3; copies++) {
                Laid.acted(x, "d" + place(x, 1));
                check.due("of three", x.discarded(1), copies);
                Laid.acted(x, "r04");
            }
        });
        said.test("Throws `IllegalArgumentException` if there is no such card", () -> {
            for (int card : new int[] {-1, 0, 6, 10, 11, Integer.MIN_VALUE, Integer.MAX_VALUE}) {
                check.refused(Check.ARGUMENT, Hintworks::new, "card " + card, x -> x.discarded(card));
            }
            for (int card : new int[] {16, 19, 20, 46, 50, 51}) {
                check.refused(Check.ARGUMENT, () -> Games.laid(2, 5), "card " + card, x -> x.discarded(card));
            }
        });
    }

    private static int place(Hintworks x, int card) {
        for (int place = x.hand(0) - 1; place >= 0; place--) {
            if (x.cardAt(0, place) == card) {
                return place;
            }
        }
        return -1;
    }
}
