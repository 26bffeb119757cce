import java.util.Collections;
import java.util.List;

/** What the document's terms say of games, cards, the deck and turns, sentence by sentence. */
public final class EdgesOfCardsTest {
    private static final int[] TWO_SUITS = {1, 2, 3, 4, 5, 11, 12, 13, 14, 15};
    private static final int[] ONE_AND_DARK = {1, 2, 3, 4, 5, 11, 12, 13, 14, 15, 1, 1, 2, 3, 4};
    private static final int[][] TWO = Laid.hands(Laid.hand(4, 12, 3, 11, 1), Laid.hand(2, 1, 15, 5, 2));
    private static final String KINDS = "ndrwu";

    private final Said said = new Said();
    private final Check check = said.check();

    private EdgesOfCardsTest() throws java.io.IOException {
    }

    public static void main(String[] args) throws java.io.IOException {
        EdgesOfCardsTest all = new EdgesOfCardsTest();
        all.games();
        all.suits();
        all.kindsOfSuits();
        all.deck();
        all.start();
        all.acts();
        all.clues();
        all.ends();
        all.said.end();
    }

    private void games() {
        said.part("Games, plays");
        said.test("Games, plays and hints come by calls;", this::nothingComesByItself);
        said.test("possibilities, meanings, promises and proofs are asked.", this::askingChangesNothing);
        said.test("No act depends on what its player cannot know,", this::adviceLooksAtNoOwnCard);
        said.test("and the knowledge of each contains the truth.", this::theTruthCanBe);
    }

    private void nothingComesByItself() {
        Hintworks x = new Hintworks();
        check.due("no game is started", x.hand(0) + x.hand(1) + x.hints(), 0);
        x.start();
        check.due("no play, no hint", x.score() + x.strikes() + x.hints(), 0);
    }

    private void askingChangesNothing() {
        Hintworks x = Laid.acted(Laid.game("nn", TWO, 13, 14), "r12 r01 p3");
        String first = Snapshot.of(x);
        check.due("asked again", Snapshot.of(x), first);
    }

    // Who holds these hands knows nothing of them, so that all of them lead to the same advice.
    private void adviceLooksAtNoOwnCard() {
        int[] other = Laid.hand(12, 13, 3, 14, 4);
        for (int[] own : Laid.hands(Laid.hand(1, 11, 2, 12, 5), Laid.hand(5, 12, 2, 11, 1),
                Laid.hand(22, 23, 24, 32, 33))) {
            Hintworks x = Laid.game("nnnn", Laid.hands(own, other), 24, 33);
            check.due("with all clues", x.advice(), 200);
            check.due("with fewer", Laid.acted(x, "r13 p3").advice(), 24);
        }
    }

    private void theTruthCanBe() {
        for (int seed = 0; seed < 40; seed++) {
            Hintworks x = new Hintworks();
            x.game(2 + seed % 3, 2 + seed % 4, 1609 * seed);
            x.start();
            for (int turn = 0; turn < 12 && !x.isOver(); turn++) {
                Laid.follow(x, x.advice());
                int player = turn % (2 + seed % 3);
                for (int place = 0; place < x.hand(player); place++) {
                    check.due("seed " + seed, x.canBe(player, place, x.cardAt(player, place)), true);
                }
            }
        }
    }

    // ---- Cards

    private void suits() {
        said.part("Cards");
        said.test("There are 1 to 5 suits,", this::oneToFiveSuits);
        said.test("numbered from 0,", this::suitsFromZero);
        said.test("with ranks 1 to 5 each:", this::ranksOneToFive);
        said.test("three copies of the rank 1, two of 2, 3 and 4, one of 5.", () -> copiesAre('n', 3, 2, 2, 2, 1));
        said.test("By ranks all are touched.", this::ranksTouchAll);
        said.test("All are 'n' at first.", this::plainAtFirst);
        said.test("A card is told as 10 times its suit plus its rank.", this::cardsAreTold);
    }

    private static Hintworks game(int players, int suits) {
        Hintworks x = new Hintworks();
        x.game(players, suits, 0);
        return x;
    }

    private void oneToFiveSuits() {
        check.due("one suit", game(2, 1).deck(), 10);
        check.due("five suits", game(2, 5).deck(), 50);
        check.refused(Check.ARGUMENT, Hintworks::new, "no suit", x -> x.game(2, 0, 0));
        check.refused(Check.ARGUMENT, Hintworks::new, "six suits", x -> x.game(2, 6, 0));
    }

    private void suitsFromZero() {
        for (int number = 1; number <= 5; number++) {
            int suits = number;
            check.taken(() -> game(2, suits), "the first of " + suits, x -> x.setSuit(0, 'd', 0));
            check.taken(() -> game(2, suits), "the last of " + suits, x -> x.setSuit(suits - 1, 'd', 0));
            check.refused(Check.RANGE, () -> game(2, suits), "one more than " + suits, x -> x.setSuit(suits, 'd', 0));
            check.refused(Check.RANGE, () -> game(2, suits), "one below", x -> x.setSuit(-1, 'd', 0));
        }
    }

    private void ranksOneToFive() {
        for (int suit = 0; suit < 5; suit++) {
            int ten = 10 * suit;
            check.due("rank 1", game(2, 5).discarded(ten + 1), 0);
            check.due("rank 5", game(2, 5).discarded(ten + 5), 0);
            check.refused(Check.ARGUMENT, () -> game(2, 5), "rank 0", x -> x.discarded(ten));
            check.refused(Check.ARGUMENT, () -> game(2, 5), "rank 6", x -> x.discarded(ten + 6));
        }
    }

    private void copiesAre(char kind, int... copies) {
        for (int suit : new int[] {0, 4}) {
            Hintworks x = game(2, 5);
            x.setSuit(suit, kind, 0);
            for (int rank = 1; rank <= 5; rank++) {
                check.due("copies of " + (10 * suit + rank), Decks.copies(x, 10 * suit + rank), copies[rank - 1]);
            }
            check.due("copies of another suit", Decks.copies(x, 21), 3);
        }
    }

    private void kindsOfSuits() {
        said.test("A suit has a kind: 'n' as told;", () -> {
            copiesAre('n', 3, 2, 2, 2, 1);
            check.due("touched by its suit", hintOfFirst("nn", 1, 2, 3, 4, 5), "5");
            check.due("played from 1 on", Laid.acted(Laid.inOrder(2, "nn", TWO_SUITS), "p4 p4 p4").score(), 3);
        });
        said.test("'d' dark, with one copy of each rank;", () -> {
            copiesAre('d', 1, 1, 1, 1, 1);
            check.due("touched by its suit", hintOfFirst("dn", 1, 2, 3, 4, 5), "5");
            check.due("played from 1 on", Laid.acted(Laid.inOrder(2, "dn", TWO_SUITS), "p4 p4 p4").score(), 3);
        });
        said.test("'r' reversed, with one copy of 1 and three of 5,", () -> copiesAre('r', 1, 2, 2, 2, 3));
        said.test("played from 5 down to 1;", this::playedDown);
        said.test("'w' touched by a hint of any suit;", this::touchedByAny);
        said.test("'u' touched by none of a suit.", this::touchedByNone);
    }

    /** What a hint of the first suit answers to who holds some cards. */
    private static String hintOfFirst(String kinds, int... held) {
        Hintworks x = Laid.game(kinds, Laid.hands(Laid.hand(11, 11, 12, 12, 13), held));
        return Check.outcome(() -> x.hintSuit(1, 0));
    }

    private void playedDown() {
        Hintworks x = Laid.inOrder(2, "rn", 5, 4, 3, 2, 1, 11, 12, 13, 14, 15);
        for (int score = 1; score <= 5; score++) {
            check.due("down", x.play(4), score);
        }
        check.due("no strike", x.strikes(), 0);
        check.due("1 ahead of 5", Laid.inOrder(2, "rn", 1, 2, 3, 4, 5, 11, 12, 13, 14, 15).play(4), 0);
        check.due("4 ahead of 5", Laid.inOrder(2, "rn", 4, 5, 3, 2, 1, 11, 12, 13, 14, 15).play(4), 0);
    }

    private void touchedByAny() {
        int[][] hands = Laid.hands(Laid.hand(1, 11, 12, 13, 14), Laid.hand(21, 22, 23, 24, 25));
        check.due("by the suit ahead", Laid.game("nnw", hands).hintSuit(1, 0), 5);
        check.due("by the next suit ahead", Laid.game("nnw", hands).hintSuit(1, 1), 5);
        int[][] first = Laid.hands(Laid.hand(21, 11, 12, 13, 14), Laid.hand(1, 2, 22, 4, 5));
        check.due("by the suits behind, with their own", Laid.game("wnn", first).hintSuit(1, 2), 5);
        check.due("beside them", Laid.game("wnn", first).hintSuit(1, 1), 4);
    }

    private void touchedByNone() {
        check.due("alone", hintOfFirst("un", 1, 2, 3, 4, 5), "throws java.lang.UnsupportedOperationException");
        int[][] hands = Laid.hands(Laid.hand(11, 11, 12, 12, 13), Laid.hand(1, 2, 14, 4, 5));
        int[][] alone = Laid.hands(Laid.hand(11, 11, 12, 12, 13), Laid.hand(1, 2, 3, 4, 5));
        check.refused(Check.UNSUPPORTED, () -> Laid.game("un", alone), "by another suit", x -> x.hintSuit(1, 1));
        check.due("beside another suit", Laid.game("un", hands).hintSuit(1, 1), 1);
        check.refused(Check.UNSUPPORTED, () -> Laid.game("unn", hands), "no other suit", x -> x.hintSuit(1, 2));
    }

    private void ranksTouchAll() {
        int[][] hands = Laid.hands(Laid.hand(2, 12, 22, 32, 42), Laid.hand(1, 11, 21, 31, 41));
        check.due("rank 1 of all kinds", Laid.game(KINDS, hands).hintRank(1, 1), 5);
        int[][] fives = Laid.hands(Laid.hand(2, 12, 22, 32, 42), Laid.hand(5, 15, 25, 35, 45));
        check.due("rank 5 of all kinds", Laid.game(KINDS, fives).hintRank(1, 5), 5);
    }

    private void plainAtFirst() {
        Hintworks x = game(2, 5);
        for (int suit = 0; suit < 5; suit++) {
            x.setSuit(suit, KINDS.charAt(suit), 0);
        }
        x.game(2, 5, 0);
        check.due("all cards", x.deck(), 50);
        for (int suit = 0; suit < 5; suit++) {
            check.due("copies of 5", Decks.copies(x, 10 * suit + 5), 1);
        }
        check.due("of the first object", Decks.copies(new Hintworks(), 1), 3);
        Hintworks hinted = Laid.deck(2, "wu");
        hinted.game(2, 2, 0);
        for (int place = 0; place < 5; place++) {
            hinted.lay(2 * place, 11 + place);
            hinted.lay(2 * place + 1, 1 + place);
        }
        hinted.start();
        check.due("a hint tells the suit that was w", hinted.hintSuit(1, 0), 5);
        check.due("a hint tells the suit that was u", hinted.hintSuit(0, 1), 5);
    }

    private void cardsAreTold() {
        check.due("the first card", game(2, 5).discarded(1), 0);
        check.due("the last card", game(2, 5).discarded(45), 0);
        check.due("the last card of one suit", game(2, 1).discarded(5), 0);
        for (int card : new int[] {0, -1, -5, -9, -15, Integer.MIN_VALUE, 46, 50, 51, 55, 101, Integer.MAX_VALUE}) {
            check.refused(Check.ARGUMENT, () -> game(2, 5), "card " + card, x -> x.discarded(card));
        }
        check.refused(Check.ARGUMENT, () -> game(2, 1), "the second of one suit", x -> x.discarded(11));
        check.due("as laid", Laid.inOrder(2, "nnnnn", 45, 1, 31, 22, 13).cardAt(0, 4), 45);
    }

    // ---- Deck

    private void deck() {
        said.part("Deck");
        said.test("The deck has all cards, by suits, ranks and copies;", this::allCards);
        said.test("then, for each place of it, counted from 0, from the last one down to the place 1, the seed becomes "
                + "itself times 1103, plus 12345, modulo 65536, and the cards at this place and at the seed modulo 1 "
                + "more than the place change.", this::shuffledBySeed);
        said.test("Then it can be laid as wanted: the card of a place changes with the first one from this place on "
                + "that is as told.", this::laidAsWanted);
    }

    private void allCards() {
        for (String kinds : List.of("n", "d", "r", "w", "u", "ndrwu", "ddddd", "nnnnn", "rn")) {
            Hintworks x = Laid.deck(2, kinds);
            for (int suit = 0; suit < kinds.length(); suit++) {
                for (int rank = 1; rank <= 5; rank++) {
                    int card = 10 * suit + rank;
                    int copies = Collections.frequency(Decks.sorted(kinds), card);
                    check.due(kinds + " " + card, Decks.copies(x, card), copies);
                }
            }
        }
    }

    private void shuffledBySeed() {
        Decks.due(check, "as worked out by hand", new Hintworks(), List.of(4, 2, 1, 3, 2, 5, 4, 1, 1, 3));
        for (int seed : new int[] {0, 1, 59, 32767, 32768, 65534, 65535}) {
            for (int suits = 1; suits <= 5; suits++) {
                Hintworks x = new Hintworks();
                x.game(4, suits, seed);
                Decks.due(check, suits + " suits by " + seed, x, Decks.shuffled("n".repeat(suits), seed));
            }
            Hintworks y = game(2, 5);
            for (int suit = 0; suit < 5; suit++) {
                y.setSuit(suit, KINDS.charAt(suit), suit == 4 ? seed : 7);
            }
            Decks.due(check, "all kinds by " + seed, y, Decks.shuffled(KINDS, seed));
        }
    }

    private void laidAsWanted() {
        Hintworks x = new Hintworks();
        check.due("the first place", x.lay(0, 3), 4);
        Decks.due(check, "with the first one as told", x, List.of(3, 2, 1, 4, 2, 5, 4, 1, 1, 3));
        check.due("from the place on, not ahead of it", x.lay(3, 1), 4);
        Decks.due(check, "then", x, List.of(3, 2, 1, 1, 2, 5, 4, 4, 1, 3));
        check.due("the place itself", x.lay(8, 1), 1);
        check.due("the last place", x.lay(9, 3), 3);
        Decks.due(check, "as it was", x, List.of(3, 2, 1, 1, 2, 5, 4, 4, 1, 3));
        check.refused(Check.ELEMENT, Hintworks::new, "the last place, no such card", y -> y.lay(9, 1));
        check.refused(Check.ELEMENT, Hintworks::new, "one behind the only copy", y -> y.lay(6, 5));
        check.due("at the only copy", new Hintworks().lay(5, 5), 5);
        check.due("from the last place to the first", Laid.deck(2, "n", 4, 2, 1, 3, 2, 5, 4, 1, 1).lay(9, 3), 3);
    }

    private void start() {
        said.test("As the game starts, the players, 2 to 4, get a card each, by their numbers, round and round,",
                this::roundAndRound);
        said.test("until all have 5, or 4 of 4 players;", this::fiveOrFour);
        said.test("the first card of the deck goes first.", this::firstCardFirst);
        said.test("Places of a hand are counted from 0, the newest card first.", this::newestFirst);
        said.test("There are 8 clues and no strikes, and the player 0 begins.", this::atTheStart);
    }

    private void roundAndRound() {
        for (int players = 2; players <= 4; players++) {
            Hintworks x = game(players, 5);
            List<Integer> cards = Decks.shuffled("nnnnn", 0);
            x.start();
            int each = x.hand(0);
            for (int number = 0; number < each * players; number++) {
                int card = x.cardAt(number % players, each - 1 - number / players);
                check.due("card " + number + " of " + players + " players", card, cards.get(number));
            }
        }
        check.refused(Check.ARGUMENT, Hintworks::new, "one player", x -> x.game(1, 5, 0));
        check.refused(Check.ARGUMENT, Hintworks::new, "five players", x -> x.game(5, 5, 0));
    }

    private void fiveOrFour() {
        int[] each = {5, 5, 4};
        for (int players = 2; players <= 4; players++) {
            Hintworks x = game(players, 5);
            check.due("left of " + players, x.start(), 50 - players * each[players - 2]);
            for (int player = 0; player < players; player++) {
                check.due("hand " + player + " of " + players, x.hand(player), each[players - 2]);
            }
        }
    }

    private void firstCardFirst() {
        check.due("of 2", Laid.inOrder(2, "nn", 15).cardAt(0, 4), 15);
        check.due("of 3", Laid.inOrder(3, "nn", 15).cardAt(0, 4), 15);
        check.due("of 4", Laid.inOrder(4, "nn", 15).cardAt(0, 3), 15);
        Hintworks x = Laid.inOrder(2, "nn", 1, 2, 3, 4, 5, 11, 12, 13, 14, 15, 1, 11);
        x.play(4);
        check.due("then the next one", x.cardAt(0, 0), 1);
        x.play(4);
        check.due("and the one behind it", x.cardAt(1, 0), 11);
    }

    private String handOf(Hintworks x, int player) {
        StringBuilder cards = new StringBuilder();
        for (int place = 0; place < x.hand(player); place++) {
            cards.append(place == 0 ? "" : " ").append(x.cardAt(player, place));
        }
        return cards.toString();
    }

    private void newestFirst() {
        check.due("as laid", handOf(Laid.game("nn", TWO, 13), 0), "4 12 3 11 1");
        check.due("the oldest goes", handOf(Laid.acted(Laid.game("nn", TWO, 13), "p4"), 0), "13 4 12 3 11");
        check.due("the newest goes", handOf(Laid.acted(Laid.game("nn", TWO, 13), "p0"), 0), "13 12 3 11 1");
        check.due("one between goes", handOf(Laid.acted(Laid.game("nn", TWO, 13), "p2"), 0), "13 4 12 11 1");
        check.due("none is drawn", handOf(Laid.acted(Laid.inOrder(2, "n", 1, 2, 3, 4, 5, 1, 1, 2, 3, 4), "p4"), 0),
                "3 1 5 3");
        check.refused(Check.RANGE, () -> Laid.game("nn", TWO), "ahead of the newest", x -> x.cardAt(0, -1));
        check.refused(Check.RANGE, () -> Laid.game("nn", TWO), "behind the oldest", x -> x.cardAt(0, 5));
    }

    private void atTheStart() {
        Hintworks x = Laid.acted(Laid.game("nn", TWO, 13), "p0 r01");
        check.due("in a game", x.clues() + " " + x.strikes() + " " + x.turn(), "7 1 0");
        x.play(4);
        x.game(3, 2, 9);
        check.due("ahead of the start", x.clues() + " " + x.strikes(), "8 0");
        x.start();
        check.due("at the start", x.clues() + " " + x.strikes() + " " + x.turn(), "8 0 0");
    }

    // ---- Turns

    private void acts() {
        said.part("Turns");
        said.test("A player plays a card, discards one, or gives a hint to another one.", this::actsPassTheTurn);
        said.test("A played card that is the next one of its suit goes onto it;", this::nextOnes);
        said.test("the last rank of a suit gives a clue back, if there are fewer than 8;", this::clueByLastRank);
        said.test("any other card is a strike, and discarded.", this::strikes);
        said.test("Who played or discarded draws a card, if there is one.", this::draws);
        said.test("The score is how many cards are played.", this::scores);
    }

    private void actsPassTheTurn() {
        Hintworks x = Laid.inOrder(3, "nnn", 1, 2, 3);
        check.due("by a play", Laid.acted(x, "p4").turn(), 1);
        check.due("by a hint", Laid.acted(x, "r0" + x.cardAt(0, 0) % 10).turn(), 2);
        check.due("by a discard, from the last player to the first", Laid.acted(x, "d0").turn(), 0);
        check.due("by a strike", Laid.acted(Laid.game("nn", TWO), "p0").turn(), 1);
        check.due("of two players", Laid.acted(Laid.game("nn", TWO), "p0 p1").turn(), 0);
        check.refused(Check.ARGUMENT, () -> Laid.game("nn", TWO), "no hint to oneself", y -> y.hintRank(0, 1));
    }

    private void nextOnes() {
        Hintworks x = Laid.inOrder(2, "nn", TWO_SUITS);
        for (int score = 1; score <= 10; score++) {
            check.due("a next one", x.play(4), score);
        }
        check.due("all of them", x.strikes(), 0);
        check.due("2 ahead of 1", Laid.inOrder(2, "nn", 2, 1).play(4), 0);
        check.due("5 ahead of 1", Laid.inOrder(2, "nn", 5, 1).play(4), 0);
        check.due("1 of the last suit", Laid.inOrder(2, "nnnnn", 41, 1).play(4), 1);
        check.due("1 again", Laid.acted(Laid.inOrder(2, "nn", 1, 1), "p4 p4").score(), 1);
        check.due("3 upon 1", Laid.acted(Laid.inOrder(2, "nn", 1, 3), "p4 p4").score(), 1);
        check.due("2 of another suit upon 1", Laid.acted(Laid.inOrder(2, "nn", 1, 12), "p4 p4").score(), 1);
    }

    // The players hold 1 3 5 12 14 and 2 4 11 13 15, the first ones the oldest.
    private void clueByLastRank() {
        String five = "p4 p4 p4 p4 p4";
        check.due("with 8", Laid.acted(Laid.inOrder(2, "nn", TWO_SUITS), five).clues(), 8);
        check.due("with 7", Laid.acted(Laid.inOrder(2, "nn", TWO_SUITS), "r12 p0 " + five).clues(), 8);
        Hintworks x = Laid.acted(Laid.inOrder(2, "nn", TWO_SUITS), "r12 r01 " + five);
        check.due("with 6", x.clues(), 7);
        check.due("of the second suit", Laid.acted(x, five).clues(), 8);
        Hintworks none = Laid.acted(Laid.inOrder(2, "nn", TWO_SUITS), "r12 r01 r12 r01 r12 r01 r12 r01");
        check.due("with none, ahead of the last rank", Laid.acted(none, "p4 p4 p4 p4").clues(), 0);
        check.due("with none", Laid.acted(none, "p4").clues(), 1);
        Hintworks down = Laid.inOrder(2, "rn", 5, 4, 3, 2, 1, 11, 12, 13, 14, 15);
        check.due("5 of a reversed suit gives none", Laid.acted(down, "r14 r05 p4").clues(), 6);
        check.due("1 of a reversed suit gives one", Laid.acted(down, "p4 p4 p4 p4").clues(), 7);
    }

    private void strikes() {
        Hintworks x = Laid.game("nn", TWO, 13, 14);
        x.hintRank(1, 2);
        check.due("not a next one", x.play(2) + " " + x.strikes() + " " + x.discarded(15), "0 1 1");
        check.due("no clue by it", x.clues(), 7);
        check.due("a next one", x.play(4) + " " + x.strikes() + " " + x.discarded(1), "1 1 0");
        check.due("played already", x.play(2) + " " + x.strikes() + " " + x.discarded(1), "1 2 1");
    }

    private void draws() {
        Hintworks x = Laid.inOrder(2, "nd", ONE_AND_DARK);
        Laid.acted(x, "p4 p4 p4 p4");
        check.due("one card left", x.deck() + " " + x.hand(0), "1 5");
        Laid.acted(x, "p4");
        check.due("the last one drawn", x.deck() + " " + x.hand(0) + " " + x.cardAt(0, 0), "0 5 4");
        Laid.acted(x, "p4");
        check.due("none to draw", x.deck() + " " + x.hand(1), "0 4");
        Hintworks y = Laid.acted(Laid.inOrder(2, "nd", ONE_AND_DARK), "r12 d0");
        check.due("who discarded draws", y.deck() + " " + y.hand(1) + " " + y.cardAt(1, 0), "4 5 1");
        check.due("who hinted does not", Laid.acted(y, "r11").deck() + " " + y.hand(0) + " " + y.cardAt(0, 0),
                "4 5 14");
        Hintworks z = Laid.acted(Laid.inOrder(2, "n", 1, 2, 3, 4, 5, 1, 1, 2, 3, 4), "r12 d0");
        check.due("who discarded, none to draw", z.deck() + " " + z.hand(0) + " " + z.hand(1), "0 5 4");
    }

    private void scores() {
        Hintworks x = new Hintworks();
        check.due("ahead of the start", x.score(), 0);
        int[] all = new int[25];
        for (int number = 0; number < 25; number++) {
            all[number] = 10 * (number / 5) + number % 5 + 1;
        }
        Hintworks y = Laid.inOrder(2, "nnnnn", all);
        for (int score = 1; score <= 25; score++) {
            check.due("score", y.play(4), score);
        }
        check.due("the greatest score", y.score() + " " + y.most() + " " + y.isOver(), "25 25 true");
        check.due("no score by a strike, a hint, a discard", Laid.acted(Laid.game("nn", TWO), "p0 r04 d0").score(), 0);
    }

    private void clues() {
        said.test("To discard gives a clue back, and cannot be done with 8.", this::discardsGiveClues);
        said.test("A hint costs a clue;", this::hintsCostClues);
        said.test("it tells one of the suits, or a rank, and must touch a card.", this::hintsTouch);
    }

    private void discardsGiveClues() {
        check.refused(Check.UNSUPPORTED, () -> Laid.game("nn", TWO), "with 8", x -> x.discard(0));
        check.due("with 7", Laid.acted(Laid.game("nn", TWO), "r12 d0").clues(), 8);
        check.refused(Check.UNSUPPORTED, () -> Laid.acted(Laid.game("nn", TWO), "r12 d0"), "with 8 again",
                x -> x.discard(0));
        String eight = "r12 r01 r12 r01 r12 r01 r12 r01";
        check.due("with none", Laid.acted(Laid.game("nn", TWO), eight + " d0").clues(), 1);
    }

    private void hintsCostClues() {
        check.due("of 8", Laid.acted(Laid.game("nn", TWO), "s10").clues(), 7);
        String seven = "r12 r01 r12 r01 r12 r01 r12";
        check.due("one left", Laid.acted(Laid.game("nn", TWO), seven).clues(), 1);
        check.due("the last one, by a rank", Laid.acted(Laid.game("nn", TWO), seven + " r01").clues(), 0);
        check.due("the last one, by a suit", Laid.acted(Laid.game("nn", TWO), seven + " s01").clues(), 0);
        check.refused(Check.UNSUPPORTED, () -> Laid.acted(Laid.game("nn", TWO), seven + " r01"), "a rank of none",
                x -> x.hintRank(1, 2));
        check.refused(Check.UNSUPPORTED, () -> Laid.acted(Laid.game("nn", TWO), seven + " s01"), "a suit of none",
                x -> x.hintSuit(1, 0));
    }

    private void hintsTouch() {
        check.due("one card by a suit", Laid.game("nn", TWO).hintSuit(1, 1), 1);
        check.due("one card by a rank", Laid.game("nn", TWO).hintRank(1, 1), 1);
        check.due("all cards by a suit", Laid.inOrder(2, "n").hintSuit(1, 0), 5);
        check.refused(Check.UNSUPPORTED, () -> Laid.game("nn", TWO), "no card by a rank", x -> x.hintRank(1, 3));
        int[][] noSecond = Laid.hands(Laid.hand(4, 12, 3, 11, 1), Laid.hand(2, 1, 3, 5, 2));
        check.refused(Check.UNSUPPORTED, () -> Laid.game("nn", noSecond), "no card by a suit", x -> x.hintSuit(1, 1));
        check.refused(Check.RANGE, () -> Laid.game("nn", TWO), "no such suit", x -> x.hintSuit(1, 2));
        check.refused(Check.ARGUMENT, () -> Laid.game("nn", TWO), "no such rank", x -> x.hintRank(1, 6));
    }

    private void ends() {
        said.test("The game is over behind the third strike,", this::thirdStrike);
        said.test("as all suits are whole,", this::allWhole);
        said.test("or as each player has had a turn behind that in which the last card was drawn,", this::lastTurns);
        said.test("which may be at the start.", this::lastCardAtTheStart);
    }

    private void thirdStrike() {
        Hintworks x = Laid.game("nn", TWO, 13, 14);
        check.due("one", Laid.acted(x, "p0").strikes() + " " + x.isOver(), "1 false");
        check.due("two", Laid.acted(x, "p0").strikes() + " " + x.isOver(), "2 false");
        check.due("a play that fits with two", Laid.acted(x, "p4").strikes() + " " + x.isOver(), "2 false");
        check.due("three", Laid.acted(x, "p0").strikes() + " " + x.isOver(), "3 true");
    }

    // Fifteen cards are played, fifteen are in hands or in the deck then.
    private void allWhole() {
        Hintworks x = Laid.inOrder(2, "nnn", 1, 2, 3, 4, 5, 11, 12, 13, 14, 15, 21, 22, 23, 24, 25);
        for (int score = 1; score <= 15; score++) {
            check.due("score", x.play(4), score);
            check.due("whole with " + score, x.isOver(), score == 15);
        }
        check.due("with cards in the deck", x.deck(), 5);
    }

    private void plays(Hintworks x, int place, int number) {
        for (int play = 0; play < number; play++) {
            check.due("not over yet", x.isOver(), false);
            x.play(place);
        }
    }

    private void lastTurns() {
        Hintworks two = Laid.inOrder(2, "nd", ONE_AND_DARK);
        plays(two, 4, 5);
        check.due("two players, the last card drawn", two.deck() + " " + two.isOver(), "0 false");
        plays(two, 4, 2);
        check.due("a turn each of two", two.isOver(), true);
        int[] rest = {1, 2, 3, 4, 5, 11, 12, 13, 14, 15, 1, 1, 2, 3, 4, 11, 11, 12, 13, 14};
        Hintworks three = Laid.inOrder(3, "nn", rest);
        plays(three, 4, 5 + 3);
        check.due("a turn each of three", three.isOver(), true);
        Hintworks four = Laid.inOrder(4, "nn", rest);
        plays(four, 3, 4 + 3);
        check.due("three turns of four", four.deck() + " " + four.isOver(), "0 false");
        plays(four, 3, 1);
        check.due("a turn each of four", four.isOver(), true);
        lastCardByOtherActs();
    }

    private void lastCardByOtherActs() {
        Hintworks strike = Laid.acted(Laid.inOrder(2, "nd", ONE_AND_DARK), "p4 p4 p4 p4 p0");
        check.due("drawn behind a strike", strike.strikes() + " " + strike.deck() + " " + strike.isOver(), "1 0 false");
        check.due("one turn", Laid.acted(strike, "r01").isOver(), false);
        check.due("a turn each", Laid.acted(strike, "r13").isOver(), true);
        Hintworks discard = Laid.acted(Laid.inOrder(2, "nd", ONE_AND_DARK), "p4 p4 p4 r04 d4");
        check.due("one card left", discard.deck(), 1);
        Laid.acted(discard, "r04 d4");
        check.due("drawn behind a discard", discard.deck() + " " + discard.isOver(), "0 false");
        check.due("one turn then", Laid.acted(discard, "r04").isOver(), false);
        check.due("a turn each then", Laid.acted(discard, "d4").isOver(), true);
    }

    private void lastCardAtTheStart() {
        Hintworks two = Laid.inOrder(2, "n", 1, 2, 3, 4, 5, 1, 1, 2, 3, 4);
        check.due("two players", two.deck() + " " + two.isOver(), "0 false");
        check.due("one turn of two", Laid.acted(two, "p4").isOver(), false);
        check.due("two turns of two", Laid.acted(two, "r01").isOver(), true);
        Hintworks three = Laid.inOrder(3, "nd", ONE_AND_DARK);
        check.due("three players", three.deck() + " " + three.isOver(), "0 false");
        check.due("two turns of three", Laid.acted(three, "p4 p4").isOver(), false);
        check.due("three turns of three", Laid.acted(three, "p4").isOver(), true);
    }
}
