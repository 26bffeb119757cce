/** Promises 1 to 14. */
public final class GamesTest {
    private static final Check check = new Check();
    private static final int[][] TWO = Laid.hands(Laid.hand(4, 12, 3, 11, 1), Laid.hand(2, 1, 15, 5, 2));

    public static void main(String[] args) {
        newObject();
        game();
        gameLeavesNothing();
        setSuit();
        setSuitRefuses();
        lay();
        layRefuses();
        start();
        startRefuses();
        turn();
        cardAt();
        hand();
        clues();
        strikesAndScore();
        overByCards();
        overByWholeSuits();
        discarded();
        check.end();
    }

    // A lay of the card that is there changes nothing, so the deck can be read so.
    private static void deckIs(String what, Hintworks x, int... cards) {
        check.due(what + ", deck()", x.deck(), cards.length);
        for (int place = 0; place < cards.length; place++) {
            int at = place;
            check.due(what + ", place " + place, Check.outcome(() -> x.lay(at, cards[at])), cards[place]);
        }
    }

    private static void handIs(String what, Hintworks x, int player, int... cards) {
        check.due(what + ", hand(" + player + ")", x.hand(player), cards.length);
        for (int place = 0; place < cards.length; place++) {
            int at = place;
            check.due(what + ", player " + player + ", place " + place, Check.outcome(() -> x.cardAt(player, at)),
                    cards[place]);
        }
    }

    private static void newObject() {
        Hintworks x = new Hintworks();
        check.due("new clues", x.clues(), 8);
        check.due("new strikes", x.strikes(), 0);
        check.due("new score", x.score(), 0);
        check.due("new isOver", x.isOver(), false);
        check.due("new hints", x.hints(), 0);
        check.due("new second player", x.hand(1), 0);
        check.range(x, "new third player", () -> x.hand(2));
        check.argument(x, "new second suit", () -> x.discarded(11));
        check.state(x, "new turn", () -> x.turn());
        deckIs("new", x, 4, 2, 1, 3, 2, 5, 4, 1, 1, 3);
        check.due("new start", x.start(), 0);
        handIs("new started", x, 0, 1, 4, 2, 1, 4);
        handIs("new started", x, 1, 3, 1, 5, 3, 2);
        check.due("new started turn", x.turn(), 0);
    }

    private static void game() {
        Hintworks x = new Hintworks();
        for (int suits = 1; suits <= 5; suits++) {
            for (int players = 2; players <= 4; players++) {
                check.due("game " + players + " " + suits, x.game(players, suits, 65535), 10 * suits);
                check.due("its last player", x.hand(players - 1), 0);
                check.due("its last suit", x.discarded(10 * suits - 5), 0);
            }
        }
        check.due("game with two suits", x.game(2, 2, 5), 20);
        deckIs("game", x, 1, 1, 13, 5, 3, 11, 2, 14, 12, 11, 3, 4, 4, 14, 15, 2, 11, 12, 13, 1);
        check.argument(x, "one player", () -> x.game(1, 2, 5));
        check.argument(x, "five players", () -> x.game(5, 2, 5));
        check.argument(x, "no suit", () -> x.game(2, 0, 5));
        check.argument(x, "six suits", () -> x.game(2, 6, 5));
        check.argument(x, "seed below", () -> x.game(2, 2, -1));
        check.argument(x, "seed above", () -> x.game(2, 2, 65536));
        check.argument(x, "far out", () -> x.game(Integer.MIN_VALUE, Integer.MAX_VALUE, Integer.MIN_VALUE));
        deckIs("game behind those", x, 1, 1, 13, 5, 3, 11, 2, 14, 12, 11, 3, 4, 4, 14, 15, 2, 11, 12, 13, 1);
        x.start();
        x.hintRank(1, x.cardAt(1, 0) % 10);
        check.argument(x, "six suits in a game", () -> x.game(2, 6, 5));
    }

    private static void gameLeavesNothing() {
        Hintworks x = Laid.game("rn", Laid.hands(Laid.hand(4, 12, 3, 11, 5), Laid.hand(2, 1, 15, 5, 2)), 14, 13, 14);
        x.hintRank(1, 2);
        x.play(0);
        x.play(4);
        x.discard(1);
        x.play(0);
        x.play(1);
        check.due("three strikes", x.isOver(), true);
        check.due("game anew", x.game(2, 1, 0), 10);
        Hintworks fresh = new Hintworks();
        check.due("nothing stays", Snapshot.of(x), Snapshot.of(fresh));
        deckIs("game anew", x, 4, 2, 1, 3, 2, 5, 4, 1, 1, 3);
        x.start();
        fresh.start();
        check.due("nothing stays, started", Snapshot.of(x), Snapshot.of(fresh));
    }

    private static void setSuit() {
        Hintworks x = new Hintworks();
        check.due("a dark suit", x.setSuit(0, 'd', 7), 5);
        deckIs("dark", x, 1, 3, 5, 4, 2);
        check.due("a reversed suit", x.setSuit(0, 'r', 65535), 10);
        deckIs("reversed", x, 4, 4, 2, 5, 3, 3, 1, 5, 5, 2);
        check.due("a suit of all hints", x.setSuit(0, 'w', 0), 10);
        check.due("a suit of no hint", x.setSuit(0, 'u', 0), 10);
        check.due("a suit as told", x.setSuit(0, 'n', 0), 10);
        deckIs("as told", x, 4, 2, 1, 3, 2, 5, 4, 1, 1, 3);
        x.lay(0, 5);
        x.setSuit(0, 'n', 0);
        deckIs("laid anew", x, 4, 2, 1, 3, 2, 5, 4, 1, 1, 3);
        x.game(2, 2, 0);
        x.setSuit(1, 'r', 1234);
        deckIs("two kinds", x, 3, 1, 1, 3, 2, 5, 4, 15, 15, 13, 12, 14, 13, 2, 1, 15, 14, 12, 11, 4);
        check.due("both dark", x.setSuit(0, 'd', 0) + x.setSuit(1, 'd', 0), 25);
    }

    private static void setSuitRefuses() {
        Hintworks x = new Hintworks();
        check.range(x, "no such suit", () -> x.setSuit(1, 'n', 0));
        check.range(x, "suit below", () -> x.setSuit(-1, 'n', 0));
        check.range(x, "suit ahead of kind", () -> x.setSuit(5, 'x', -1));
        check.argument(x, "no such kind", () -> x.setSuit(0, 'x', 0));
        check.argument(x, "kind 0", () -> x.setSuit(0, '\0', 0));
        check.argument(x, "a great letter", () -> x.setSuit(0, 'D', 0));
        check.argument(x, "seed below", () -> x.setSuit(0, 'd', -1));
        check.argument(x, "seed above", () -> x.setSuit(0, 'd', 65536));
        deckIs("behind those", x, 4, 2, 1, 3, 2, 5, 4, 1, 1, 3);
        x.start();
        check.state(x, "started", () -> x.setSuit(0, 'd', 0));
        check.argument(x, "kind ahead of started", () -> x.setSuit(0, 'x', 0));
        check.argument(x, "seed ahead of started", () -> x.setSuit(0, 'd', 65536));
        check.range(x, "suit ahead of started", () -> x.setSuit(1, 'd', 0));
    }

    private static void lay() {
        Hintworks x = new Hintworks();
        check.due("lay", x.lay(0, 1), 4);
        deckIs("laid", x, 1, 2, 4, 3, 2, 5, 4, 1, 1, 3);
        check.due("lay what is there", x.lay(0, 1), 1);
        check.due("lay what is ahead too", x.lay(3, 1), 3);
        deckIs("laid again", x, 1, 2, 4, 1, 2, 5, 4, 3, 1, 3);
        check.due("lay the last", x.lay(9, 3), 3);
        x.start();
        handIs("laid", x, 0, 1, 4, 2, 4, 1);
        handIs("laid", x, 1, 3, 3, 5, 1, 2);
    }

    private static void layRefuses() {
        Hintworks x = new Hintworks();
        check.range(x, "place below", () -> x.lay(-1, 1));
        check.range(x, "place above", () -> x.lay(10, 1));
        check.range(x, "place ahead of card", () -> x.lay(10, 0));
        check.argument(x, "rank 0", () -> x.lay(0, 0));
        check.argument(x, "rank 6", () -> x.lay(0, 6));
        check.argument(x, "no such suit", () -> x.lay(0, 11));
        check.argument(x, "a card below", () -> x.lay(0, -9));
        check.argument(x, "a card far below", () -> x.lay(0, Integer.MIN_VALUE));
        check.element(x, "not from there on", () -> x.lay(9, 5));
        check.element(x, "behind the only one", () -> x.lay(6, 5));
        check.due("the only one", x.lay(5, 5), 5);
        deckIs("behind those", x, 4, 2, 1, 3, 2, 5, 4, 1, 1, 3);
        x.start();
        check.state(x, "started", () -> x.lay(0, 1));
        check.state(x, "started, the last place", () -> x.lay(9, 1));
        check.range(x, "place ahead of started", () -> x.lay(10, 1));
        check.argument(x, "card ahead of started", () -> x.lay(0, 6));
        x.game(2, 1, 0);
        x.setSuit(0, 'd', 7);
        check.range(x, "place behind a small deck", () -> x.lay(5, 1));
        check.due("last place of a small deck", x.lay(4, 2), 2);
    }

    private static void start() {
        Hintworks x = new Hintworks();
        x.game(3, 3, 0);
        x.setSuit(1, 'r', 0);
        x.setSuit(2, 'w', 9);
        check.due("start of three", x.start(), 15);
        check.due("deck of three", x.deck(), 15);
        handIs("three", x, 0, 4, 11, 22, 24, 3);
        handIs("three", x, 1, 15, 21, 12, 13, 15);
        handIs("three", x, 2, 14, 13, 23, 5, 14);
        check.state(x, "started", () -> x.start());
        x.game(4, 2, 1);
        check.due("start of four", x.start(), 4);
        check.due("hand of four", x.hand(3), 4);
        x.game(3, 2, 1);
        check.due("start of three with two suits", x.start(), 5);
        x.game(2, 1, 1);
        check.due("start with all cards", x.start(), 0);
    }

    private static void startRefuses() {
        Hintworks x = new Hintworks();
        x.setSuit(0, 'd', 0);
        check.unsupported(x, "five cards for two", () -> x.start());
        x.game(3, 1, 0);
        check.unsupported(x, "ten cards for three", () -> x.start());
        x.game(4, 1, 0);
        check.unsupported(x, "ten cards for four", () -> x.start());
        check.state(x, "not started by that", () -> x.turn());
        x.game(4, 2, 0);
        x.setSuit(0, 'd', 0);
        check.unsupported(x, "fifteen cards for four", () -> x.start());
        check.due("twenty cards for four", x.setSuit(0, 'n', 0), 20);
        check.due("start then", x.start(), 4);
        x.game(3, 2, 0);
        x.setSuit(0, 'd', 0);
        check.due("fifteen cards for three", x.start(), 0);
    }

    private static void turn() {
        Hintworks x = new Hintworks();
        check.state(x, "not started", () -> x.turn());
        x.game(3, 2, 1);
        x.start();
        check.due("first turn", x.turn(), 0);
        x.hintRank(1, x.cardAt(1, 0) % 10);
        check.due("behind a hint", x.turn(), 1);
        x.discard(0);
        check.due("behind a discard", x.turn(), 2);
        x.hintRank(1, x.cardAt(1, 0) % 10);
        check.due("round", x.turn(), 0);
        Hintworks y = Laid.game("nn", TWO);
        y.play(0);
        check.due("behind a strike", y.turn(), 1);
        y.play(1);
        check.due("behind a play", y.turn(), 0);
        y.play(0);
        y.play(0);
        check.state(y, "over", () -> y.turn());
    }

    private static void cardAt() {
        Hintworks x = new Hintworks();
        check.state(x, "not started", () -> x.cardAt(0, 0));
        check.state(x, "not started ahead of range", () -> x.cardAt(9, 9));
        Hintworks y = Laid.game("nn", TWO, 13, 14);
        handIs("laid", y, 0, 4, 12, 3, 11, 1);
        handIs("laid", y, 1, 2, 1, 15, 5, 2);
        check.range(y, "place above", () -> y.cardAt(0, 5));
        check.range(y, "place below", () -> y.cardAt(0, -1));
        check.range(y, "player above", () -> y.cardAt(2, 0));
        check.range(y, "player below", () -> y.cardAt(-1, 4));
        check.range(y, "place far above", () -> y.cardAt(0, Integer.MAX_VALUE));
        y.play(2);
        handIs("drawn", y, 0, 13, 4, 12, 11, 1);
        y.play(4);
        handIs("drawn", y, 1, 14, 2, 1, 15, 5);
        handIs("stays", y, 0, 13, 4, 12, 11, 1);
    }

    private static void hand() {
        Hintworks x = new Hintworks();
        check.due("ahead of the start", x.hand(0), 0);
        check.range(x, "player below", () -> x.hand(-1));
        check.range(x, "player above", () -> x.hand(2));
        x.start();
        check.due("at the start", x.hand(1), 5);
        x.play(2);
        check.due("nothing to draw", x.hand(0), 4);
        handIs("nothing to draw", x, 0, 1, 4, 1, 4);
        check.range(x, "no fifth card", () -> x.cardAt(0, 4));
        check.due("the other hand", x.hand(1), 5);
        x.game(4, 2, 0);
        check.due("a fourth player", x.hand(3), 0);
        check.range(x, "no fifth player", () -> x.hand(4));
    }

    private static void clues() {
        Hintworks x = Laid.game("nn", Laid.hands(Laid.hand(15, 13, 11, 4, 2), Laid.hand(14, 12, 5, 3, 1)));
        check.due("at first", x.clues(), 8);
        x.hintRank(1, 1);
        check.due("behind a hint", x.clues(), 7);
        for (int number = 1; number <= 4; number++) {
            x.play(4);
            check.due("behind a play", x.clues(), 7);
        }
        check.due("last rank of a suit", x.play(4), 5);
        check.due("a clue back", x.clues(), 8);
        Hintworks y = Laid.game("nn", Laid.hands(Laid.hand(14, 12, 5, 3, 1), Laid.hand(15, 13, 11, 4, 2)));
        for (int number = 1; number <= 5; number++) {
            y.play(4);
        }
        check.due("no clue above 8", y.clues(), 8);
        Hintworks z = Laid.game("nn", TWO);
        z.hintRank(1, 2);
        z.hintRank(0, 1);
        z.discard(0);
        check.due("behind a discard", z.clues(), 7);
        z.play(0);
        check.due("behind a strike", z.clues(), 7);
        Hintworks r = Laid.game("rn", Laid.hands(Laid.hand(15, 13, 11, 2, 4), Laid.hand(14, 12, 1, 3, 5)));
        r.hintRank(1, 1);
        for (int number = 1; number <= 5; number++) {
            check.due("a reversed suit", r.play(4), number);
        }
        check.due("its last rank", r.clues(), 8);
    }

    private static void strikesAndScore() {
        Hintworks x = Laid.game("nn", TWO, 4, 13, 14);
        check.due("first play", x.play(4), 1);
        check.due("score", x.score(), 1);
        check.due("strikes", x.strikes(), 0);
        check.due("the same kind again", x.play(1), 1);
        check.due("a strike", x.strikes(), 1);
        check.due("no score by it", x.score(), 1);
        check.due("too early a card", x.play(1), 1);
        check.due("two strikes", x.strikes(), 2);
        check.due("not over", x.isOver(), false);
        check.due("a card that fits", x.play(4), 2);
        check.due("still two", x.strikes(), 2);
        check.due("third strike", x.play(0), 2);
        check.due("three strikes", x.strikes(), 3);
        check.due("over by them", x.isOver(), true);
        check.due("score stays", x.score(), 2);
    }

    private static void overByCards() {
        Hintworks x = new Hintworks();
        x.start();
        check.due("all drawn at the start", x.isOver(), false);
        x.play(0);
        check.due("one turn each, first", x.isOver(), false);
        x.hintRank(0, 4);
        check.due("one turn each, second", x.isOver(), true);
        x.game(3, 2, 1);
        x.start();
        for (int drawn = 1; drawn <= 5; drawn++) {
            x.hintRank((x.turn() + 1) % 3, x.cardAt((x.turn() + 1) % 3, 0) % 10);
            x.discard(4);
            check.due("cards left", x.deck(), 5 - drawn);
            check.due("not over as cards are left or just drawn", x.isOver(), false);
        }
        x.hintRank((x.turn() + 1) % 3, x.cardAt((x.turn() + 1) % 3, 0) % 10);
        check.due("first turn behind the last card", x.isOver(), false);
        x.discard(4);
        check.due("second turn behind the last card", x.isOver(), false);
        check.due("no card to draw", x.hand(0) + x.hand(1) + x.hand(2), 14);
        x.hintRank((x.turn() + 1) % 3, x.cardAt((x.turn() + 1) % 3, 0) % 10);
        check.due("third turn behind the last card", x.isOver(), true);
        check.state(x, "then", () -> x.play(0));
    }

    private static void overByWholeSuits() {
        Hintworks x = Laid.game("nn", Laid.hands(Laid.hand(14, 12, 5, 3, 1), Laid.hand(15, 13, 11, 4, 2)));
        for (int number = 1; number <= 9; number++) {
            check.due("whole suits, " + number, x.play(4), number);
            check.due("not whole", x.isOver(), false);
        }
        check.due("the last one", x.play(4), 10);
        check.due("whole", x.isOver(), true);
        check.state(x, "no turn then", () -> x.turn());
        check.due("most then", x.most(), 10);
    }

    private static void discarded() {
        Hintworks x = Laid.game("nn", TWO);
        check.due("none yet", x.discarded(3), 0);
        for (int round = 0; round < 2; round++) {
            x.hintRank(1, 2);
            x.hintRank(0, 3);
        }
        x.discard(2);
        check.due("discarded", x.discarded(3), 1);
        x.discard(4);
        check.due("discarded too", x.discarded(2), 1);
        x.play(1);
        check.due("by a strike", x.discarded(4), 1);
        x.play(2);
        check.due("not as played", x.discarded(1), 0);
        x.play(4);
        check.due("by a strike with a copy played", x.discarded(1), 1);
        x.discard(2);
        check.due("both copies", x.discarded(2), 2);
        check.due("another suit", x.discarded(12), 0);
        check.argument(x, "rank 0", () -> x.discarded(10));
        check.argument(x, "rank 6", () -> x.discarded(16));
        check.argument(x, "suit above", () -> x.discarded(21));
        check.argument(x, "below", () -> x.discarded(-1));
        check.argument(x, "far below", () -> x.discarded(Integer.MIN_VALUE));
        check.argument(x, "far above", () -> x.discarded(Integer.MAX_VALUE));
    }
}
