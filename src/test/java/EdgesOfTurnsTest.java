import java.util.function.BiFunction;

/** Promises 15 to 18, sentence by sentence. */
public final class EdgesOfTurnsTest {
    private static final int[] ALL_RANKS = Laid.hand(1, 2, 3, 4, 5);
    private static final int[] ALL_SUITS = Laid.hand(1, 11, 21, 31, 41);
    private static final int[] ALL_RANKS_BUT_1 = Laid.hand(2, 3, 4, 5, 12);
    private static final int[] NEITHER = Laid.hand(12, 12, 13, 13, 14);

    private final Said said = new Said();
    private final Check check = said.check();

    private EdgesOfTurnsTest() throws java.io.IOException {
    }

    public static void main(String[] args) throws java.io.IOException {
        EdgesOfTurnsTest all = new EdgesOfTurnsTest();
        all.play();
        all.discard();
        all.hintSuit();
        all.hintRank();
        all.said.end();
    }

    private static Hintworks ranks() {
        return Laid.game("nn", Laid.hands(NEITHER, ALL_RANKS));
    }

    private static Hintworks suits() {
        return Laid.game("nnnnn", Laid.hands(NEITHER, ALL_SUITS));
    }

    private static Hintworks noClue() {
        return Games.two(Games.ALL_CLUES);
    }

    private static String outcome(Hintworks x, BiFunction<Hintworks, Integer, Object> call, int number) {
        return Check.outcome(() -> call.apply(x, number));
    }

    // Of a hand of five cards, of four, and of one that has a card fewer.
    private void ownPlaces(String words, BiFunction<Hintworks, Integer, Object> call) {
        said.numbers(words, () -> Games.two("r12"), 0, 4, Check.RANGE, call);
        said.numbers(words, () -> Laid.acted(Laid.inOrder(4, "nn", 1, 5), "r15"), 0, 3, Check.RANGE, call);
    }

    // ---- Promise 15

    private void play() {
        said.part("Promise 15: play");
        said.test("Plays a card.", () -> {
            Hintworks x = Games.two("p4");
            check.due("it is played", x.score() + " " + x.discarded(1) + " " + x.turn() + " " + x.deck(), "1 0 1 9");
            Hintworks strike = Games.two("p0");
            check.due("or a strike", strike.strikes() + " " + strike.discarded(4) + " " + strike.turn(), "1 1 1");
        });
        ownPlaces("- `place`: the place in the hand, from 0, the newest one", Hintworks::play);
        said.test("the newest one", () -> {
            for (int place = 0; place < 5; place++) {
                Hintworks x = Games.two("p" + place);
                int card = Games.TWO[0][place];
                check.due("place " + place, card == 11 || card == 1 ? x.score() : x.discarded(card), 1);
            }
        });
        said.test("Returns the score then.", () -> {
            Hintworks x = Games.two();
            check.due("of a play", x.play(4), 1);
            check.due("of the next one", x.play(0), 2);
            check.due("of a strike", x.play(1), 2);
            check.due("of another strike", x.play(2), 2);
            check.due("of a strike as nothing is played", Games.two().play(0), 0);
            check.due("of the third strike", Games.two("p4 p2 p0").play(3), 1);
            check.due("of the last card", Laid.acted(Laid.inOrder(2, "nn", 1, 2, 3, 4, 5, 11, 12, 13, 14, 15),
                    "p4 p4 p4 p4 p4 p4 p4 p4 p4").play(4), 10);
        });
        said.turnsOnly("Throws `IllegalStateException` if the game was not started, or is over", x -> x.play(0));
        said.test("Throws `IndexOutOfBoundsException` if there is no such place", () -> {
            Hintworks fewer = Laid.acted(Laid.inOrder(2, "nd", 1, 2, 3, 4, 5, 11, 12, 13, 14, 15), "p4 p4 p4 p4 p4 p4");
            check.due("hands of five and four", fewer.hand(0) + " " + fewer.hand(1) + " " + fewer.turn(), "5 4 0");
            check.taken(() -> Games.started(2, 5), "the last place", x -> x.play(4));
            check.refused(Check.RANGE, () -> Games.started(4, 5), "behind four cards", x -> x.play(4));
            check.refused(Check.RANGE, () -> Games.two("p4"), "of the second player", x -> x.play(5));
        });
    }

    // ---- Promise 16

    private void discard() {
        said.part("Promise 16: discard");
        said.test("Discards a card.", () -> {
            Hintworks x = Games.two("r12 d2");
            check.due("it is discarded", x.discarded(15) + " " + x.turn() + " " + x.deck(), "1 0 9");
            check.due("a clue by it", x.clues(), 8);
            check.due("no strike, no score", x.strikes() + " " + x.score(), "0 0");
            check.due("no play of a next one", Games.two("r12 d1").score(), 0);
        });
        ownPlaces("- `place`: the place in the hand, from 0, the newest one", Hintworks::discard);
        said.test("Returns the card.", () -> {
            for (int place = 0; place < 5; place++) {
                Hintworks x = Games.two("r12");
                check.due("place " + place, outcome(x, Hintworks::discard, place), Games.TWO[1][place]);
            }
            check.due("drawn", Games.two("r12 p0 r12").discard(0), 13);
        });
        said.turnsOnly("Throws `IllegalStateException` if the game was not started, or is over", x -> x.discard(0));
        said.test("Throws `IndexOutOfBoundsException` if there is no such place", () -> {
            check.refused(Check.RANGE, () -> Games.two("r12"), "behind five cards", x -> x.discard(5));
            check.taken(() -> Games.two("r12"), "the fifth of five cards", x -> x.discard(4));
            check.refused(Check.RANGE, () -> Games.two(), "with 8 clues too", x -> x.discard(5));
        });
        said.test("Throws `UnsupportedOperationException` if there are 8 clues", () -> {
            check.refused(Check.UNSUPPORTED, Games::two, "at the start", x -> x.discard(0));
            check.refused(Check.UNSUPPORTED, () -> Games.two("r12 d0"), "8 again", x -> x.discard(0));
            check.taken(() -> Games.two("r12"), "7", x -> x.discard(0));
            check.taken(EdgesOfTurnsTest::noClue, "none", x -> x.discard(0));
            Hintworks whole = Laid.inOrder(2, "nn", 1, 2, 3, 4, 5, 11, 12, 13, 14, 15);
            check.due("8 by the last rank of a suit", outcome(Laid.acted(whole, "r12 p0 p4 p4 p4 p4 p4"),
                    Hintworks::discard, 0), "throws java.lang.UnsupportedOperationException");
        });
    }

    // ---- Promise 17

    private void hintSuit() {
        said.part("Promise 17: hintSuit");
        said.test("Gives a hint of a suit.", () -> {
            Hintworks x = Games.two("s10");
            check.due("it is given", x.hints() + " " + x.clues() + " " + x.turn() + " " + x.deck(), "1 7 1 10");
            check.due("of this suit", x.kinds(1, 0) + " " + x.canBe(1, 0, 1) + " " + x.canBe(1, 0, 11), "5 true false");
            check.due("not of the other one", x.kinds(1, 2) + " " + x.canBe(1, 2, 1), "5 false");
        });
        otherPlayers((x, player) -> x.hintSuit(player, 0));
        said.numbers("- `suit`: the suit", EdgesOfTurnsTest::suits, 0, 4, Check.RANGE, (x, n) -> x.hintSuit(1, n));
        said.test("Returns how many cards it touches.", () -> {
            check.due("one", Games.two().hintSuit(1, 1), 1);
            check.due("four", Games.two().hintSuit(1, 0), 4);
            check.due("five", ranks().hintSuit(1, 0), 5);
            check.due("those touched ahead too", Games.two("s10 r04").hintSuit(1, 0), 4);
            int[] held = Laid.hand(1, 11, 21, 31, 41);
            check.due("of all suits too", Laid.game("nnwnn", Laid.hands(NEITHER, held)).hintSuit(1, 0), 2);
            check.due("of no suit not", Laid.game("nnuun", Laid.hands(NEITHER, held)).hintSuit(1, 4), 1);
        });
        said.turnsOnly("Throws `IllegalStateException` if the game was not started, or is over", x -> x.hintSuit(1, 0));
        said.test("Throws `IndexOutOfBoundsException` if there is no such player or suit", () -> {
            check.refused(Check.RANGE, Games::two, "a third player of two", x -> x.hintSuit(2, 0));
            check.refused(Check.RANGE, Games::two, "a third suit of two", x -> x.hintSuit(1, 2));
            check.refused(Check.RANGE, () -> Games.started(2, 1), "a second suit of one", x -> x.hintSuit(1, 1));
        });
        said.test("Throws `IllegalArgumentException` if it is the own hand", () -> {
            check.refused(Check.ARGUMENT, Games::two, "of the first", x -> x.hintSuit(0, 0));
            check.refused(Check.ARGUMENT, () -> Games.two("p4"), "of the second", x -> x.hintSuit(1, 0));
            check.taken(() -> Games.two("p4"), "to the first", x -> x.hintSuit(0, 0));
        });
        said.test("Throws `UnsupportedOperationException` if there is no clue,", () -> {
            check.refused(Check.UNSUPPORTED, EdgesOfTurnsTest::noClue, "none", x -> x.hintSuit(1, 0));
            check.taken(() -> Games.two("r12 r04 r12 r04 r12 r04 r12"), "one", x -> x.hintSuit(0, 0));
            check.taken(() -> Laid.acted(noClue(), "d4"), "one by a discard", x -> x.hintSuit(0, 0));
        });
        said.test("it touches none,", () -> {
            check.refused(Check.UNSUPPORTED, EdgesOfTurnsTest::ranks, "none", x -> x.hintSuit(1, 1));
            check.taken(Games::two, "one", x -> x.hintSuit(1, 1));
        });
        said.test("or is of a suit that no hint tells, that is one of the kind w or u", this::suitsThatNoHintTells);
    }

    private void suitsThatNoHintTells() {
        for (int suit = 0; suit < 5; suit++) {
            for (char kind : "ndrwu".toCharArray()) {
                String kinds = "nnnnn".substring(0, suit) + kind + "nnnnn".substring(suit + 1);
                int told = suit;
                int[] first = Laid.hand(5, 14, 24, 34, 44);
                if (kind == 'w' || kind == 'u') {
                    check.refused(Check.UNSUPPORTED, () -> Laid.game(kinds, Laid.hands(first, ALL_SUITS)),
                            "the suit " + suit + " of " + kinds, x -> x.hintSuit(1, told));
                } else {
                    check.taken(() -> Laid.game(kinds, Laid.hands(first, ALL_SUITS)), kinds, x -> x.hintSuit(1, told));
                }
            }
        }
        check.refused(Check.UNSUPPORTED, () -> Laid.inOrder(2, "w"), "w alone", x -> x.hintSuit(1, 0));
        check.refused(Check.UNSUPPORTED, () -> Laid.inOrder(2, "u"), "u alone", x -> x.hintSuit(1, 0));
        check.refused(Check.UNSUPPORTED, () -> Laid.inOrder(2, "wwww"), "another one is w too", x -> x.hintSuit(1, 3));
    }

    private void otherPlayers(BiFunction<Hintworks, Integer, Object> hint) {
        said.test("- `to`: another player", () -> {
            for (int giver = 0; giver < 4; giver++) {
                int own = giver;
                for (int player = -1; player <= 4; player++) {
                    int to = player;
                    String what = giver + " to " + player;
                    if (player == giver) {
                        check.refused(Check.ARGUMENT, () -> turnOf(own), what, x -> hint.apply(x, to));
                    } else if (player < 0 || player > 3) {
                        check.refused(Check.RANGE, () -> turnOf(own), what, x -> hint.apply(x, to));
                    } else {
                        reaches(turnOf(own), what, to, hint);
                    }
                }
            }
        });
    }

    private void reaches(Hintworks x, String what, int to, BiFunction<Hintworks, Integer, Object> hint) {
        String[] before = kindsOfAll(x);
        check.due(what, outcome(x, hint, to), 1);
        String[] then = kindsOfAll(x);
        for (int player = 0; player < 4; player++) {
            check.due(what + ", something new for " + player, !then[player].equals(before[player]), player == to);
        }
    }

    private static String[] kindsOfAll(Hintworks x) {
        String[] kinds = new String[4];
        for (int player = 0; player < 4; player++) {
            kinds[player] = "";
            for (int place = 0; place < 4; place++) {
                kinds[player] += x.kinds(player, place) + " ";
            }
        }
        return kinds;
    }

    // Each player has one card of the first suit and one of the rank 1; the hints tell a 4 to the last player.
    private static Hintworks turnOf(int player) {
        Hintworks x = Laid.inOrder(4, "nnnn", 1, 1, 1, 2, 12, 12, 13, 11, 13, 14, 14, 22, 22, 23, 23, 24);
        return player == 0 ? x : Laid.acted(x, "r34 r34 r34".substring(0, 4 * player - 1));
    }

    // ---- Promise 18

    private void hintRank() {
        said.part("Promise 18: hintRank");
        said.test("Gives a hint of a rank.", () -> {
            Hintworks x = Games.two("r12");
            check.due("it is given", x.hints() + " " + x.clues() + " " + x.turn() + " " + x.deck(), "1 7 1 10");
            check.due("of this rank", x.kinds(1, 0) + " " + x.canBe(1, 0, 12) + " " + x.canBe(1, 0, 1), "2 true false");
            check.due("not of this rank", x.kinds(1, 1) + " " + x.canBe(1, 1, 12), "8 false");
        });
        said.numbers("- `rank`: the rank, 1 to 5", EdgesOfTurnsTest::ranks, 1, 5, Check.ARGUMENT,
                (x, n) -> x.hintRank(1, n));
        said.test("Returns how many cards it touches.", () -> {
            check.due("one", Games.two().hintRank(1, 1), 1);
            check.due("two", Games.two().hintRank(1, 2), 2);
            check.due("five", suits().hintRank(1, 1), 5);
            check.due("those touched ahead too", Games.two("r12 r04").hintRank(1, 2), 2);
            check.due("of all kinds", Laid.game("ndrwu", Laid.hands(ALL_RANKS_BUT_1, ALL_SUITS)).hintRank(1, 1), 5);
        });
        said.turnsOnly("Throws `IllegalStateException` if the game was not started, or is over", x -> x.hintRank(1, 2));
        said.test("Throws `IndexOutOfBoundsException` if there is no such player", () -> {
            check.refused(Check.RANGE, Games::two, "a third of two", x -> x.hintRank(2, 1));
            check.refused(Check.RANGE, Games::two, "below", x -> x.hintRank(-1, 1));
            check.refused(Check.RANGE, () -> Games.started(4, 2), "a fifth of four", x -> x.hintRank(4, 1));
        });
        said.test("Throws `IllegalArgumentException` if it is the own hand,", () -> {
            check.refused(Check.ARGUMENT, Games::two, "of the first", x -> x.hintRank(0, 1));
            check.refused(Check.ARGUMENT, () -> Games.two("p4"), "of the second", x -> x.hintRank(1, 1));
            check.taken(() -> Games.two("p4"), "to the first", x -> x.hintRank(0, 4));
        });
        said.test("or the rank is out of range", () -> {
            for (int rank : new int[] {0, 6, -1, 10, 11, Integer.MIN_VALUE, Integer.MAX_VALUE}) {
                check.refused(Check.ARGUMENT, Games::two, "rank " + rank, x -> x.hintRank(1, rank));
            }
        });
        said.test("Throws `UnsupportedOperationException` if there is no clue,", () -> {
            check.refused(Check.UNSUPPORTED, EdgesOfTurnsTest::noClue, "none", x -> x.hintRank(1, 2));
            check.taken(() -> Games.two("r12 r04 r12 r04 r12 r04 r12"), "one", x -> x.hintRank(0, 4));
            check.taken(() -> Laid.acted(noClue(), "d4"), "one by a discard", x -> x.hintRank(0, 4));
        });
        said.test("or it touches none", () -> {
            check.refused(Check.UNSUPPORTED, Games::two, "no 3", x -> x.hintRank(1, 3));
            check.refused(Check.UNSUPPORTED, () -> Games.two("p0"), "no 5", x -> x.hintRank(0, 5));
            check.taken(Games::two, "one", x -> x.hintRank(1, 5));
        });
        otherPlayers((x, player) -> x.hintRank(player, 1));
    }
}
