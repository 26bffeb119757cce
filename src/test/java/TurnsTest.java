/** Promises 15 to 18. */
public final class TurnsTest {
    private static final Check check = new Check();
    private static final int[][] TWO = Laid.hands(Laid.hand(4, 12, 3, 11, 1), Laid.hand(2, 1, 15, 5, 2));
    private static final int[][] THREE = Laid.hands(Laid.hand(4, 12, 3, 11, 1), Laid.hand(22, 1, 15, 25, 2),
            Laid.hand(13, 14, 13, 14, 12));

    public static void main(String[] args) {
        play();
        playsReversed();
        discard();
        hintSuit();
        hintSuitOfKinds();
        hintSuitRefuses();
        hintRank();
        hintRankRefuses();
        noClueLeft();
        check.end();
    }

    private static void play() {
        Hintworks x = new Hintworks();
        check.state(x, "not started", () -> x.play(0));
        check.state(x, "not started ahead of range", () -> x.play(9));
        Hintworks y = Laid.game("nn", TWO, 13);
        check.range(y, "place below", () -> y.play(-1));
        check.range(y, "place above", () -> y.play(5));
        check.range(y, "place far above", () -> y.play(Integer.MAX_VALUE));
        check.due("a next one", y.play(4), 1);
        check.due("it draws", y.cardAt(0, 0), 13);
        check.due("one card fewer", y.deck(), 9);
        check.due("its turn", y.turn(), 1);
        check.due("the next one of the suit", y.play(0), 2);
        check.due("a next one of another suit", y.play(4), 3);
        check.due("not a next one", y.play(2), 3);
        check.due("a strike", y.strikes(), 1);
        check.due("is discarded", y.discarded(15), 1);
        check.due("the next one there", y.play(3), 4);
        check.due("played already", y.play(4), 4);
        check.due("not over by two strikes", y.isOver(), false);
        check.due("not yet a next one", y.play(3), 4);
        check.due("over then", y.isOver(), true);
        check.state(y, "over", () -> y.play(0));
        check.state(y, "over ahead of range", () -> y.play(-1));
    }

    private static void playsReversed() {
        Hintworks x = Laid.game("rn", Laid.hands(Laid.hand(5, 1, 5, 4, 5), Laid.hand(3, 2, 12, 11, 4)));
        check.due("from 5 down", x.play(0), 1);
        check.due("then 4", x.play(4), 2);
        check.due("not 5 again", x.play(2), 2);
        check.due("a strike", x.strikes(), 1);
        check.due("then 3", x.play(1), 3);
        check.due("not 1", x.play(2), 3);
        check.due("two strikes", x.strikes(), 2);
    }

    private static void discard() {
        Hintworks x = new Hintworks();
        check.state(x, "not started", () -> x.discard(0));
        Hintworks y = Laid.game("nn", TWO, 13);
        check.unsupported(y, "8 clues", () -> y.discard(0));
        check.range(y, "range ahead of clues", () -> y.discard(5));
        check.range(y, "place below", () -> y.discard(-1));
        y.hintRank(1, 2);
        check.due("the card", y.discard(2), 15);
        check.due("a clue", y.clues(), 8);
        check.due("draws", y.cardAt(1, 0), 13);
        check.due("its turn", y.turn(), 0);
        check.due("no strike", y.strikes(), 0);
        check.due("no score", y.score(), 0);
        check.unsupported(y, "8 clues again", () -> y.discard(0));
        y.play(0);
        y.play(0);
        y.play(0);
        check.due("over", y.isOver(), true);
        check.state(y, "over", () -> y.discard(0));
        check.state(y, "over ahead of range", () -> y.discard(9));
    }

    private static void hintSuit() {
        Hintworks x = Laid.game("nnn", THREE);
        check.due("two cards", x.hintSuit(1, 0), 2);
        check.due("next player", x.turn(), 1);
        check.due("no card drawn", x.deck(), 15);
        check.due("touched", x.kinds(1, 1), 5);
        check.due("touched too", x.kinds(1, 4), 5);
        check.due("not touched", x.kinds(1, 0), 7);
        check.due("five cards", x.hintSuit(2, 1), 5);
        check.due("to a player ahead", x.hintSuit(0, 1), 2);
        check.due("clues", x.clues(), 5);
        check.due("hints", x.hints(), 3);
    }

    private static void hintSuitOfKinds() {
        Hintworks x = Laid.game("nwu", THREE);
        check.unsupported(x, "of the kind w", () -> x.hintSuit(1, 1));
        check.unsupported(x, "of the kind u", () -> x.hintSuit(1, 2));
        check.argument(x, "the own hand ahead of the kind", () -> x.hintSuit(0, 1));
        check.due("touches w, not u", x.hintSuit(1, 0), 3);
        check.due("can be of both", x.canBe(1, 2, 11) && x.canBe(1, 2, 3), true);
        check.due("can be u by no hint of a suit", x.canBe(1, 2, 23), false);
        check.due("not touched can be u alone", x.kinds(1, 0), 5);
        check.due("w alone", x.hintSuit(2, 0), 5);
        check.due("a rank touches u and w", x.hintRank(1, 5), 2);
        Hintworks y = Laid.game("nnu", THREE);
        check.unsupported(y, "u is not touched", () -> Laid.game("nnu", Laid.hands(Laid.hand(1, 2, 3, 4, 5),
                Laid.hand(21, 22, 23, 24, 25))).hintSuit(1, 0));
        check.due("a dark suit", Laid.game("ddn", Laid.hands(Laid.hand(1, 2, 3, 4, 5), Laid.hand(11, 12, 13, 14, 15)))
                .hintSuit(1, 1), 5);
        check.due("a reversed suit", Laid.game("nr", TWO).hintSuit(1, 1), 1);
    }

    private static void hintSuitRefuses() {
        Hintworks x = new Hintworks();
        check.state(x, "not started", () -> x.hintSuit(1, 0));
        check.state(x, "not started ahead of range", () -> x.hintSuit(9, 9));
        Hintworks y = Laid.game("nnn", THREE);
        check.range(y, "player above", () -> y.hintSuit(3, 0));
        check.range(y, "player below", () -> y.hintSuit(-1, 0));
        check.range(y, "suit above", () -> y.hintSuit(1, 3));
        check.range(y, "suit below", () -> y.hintSuit(1, -1));
        check.range(y, "suit ahead of the own hand", () -> y.hintSuit(0, 3));
        check.argument(y, "the own hand", () -> y.hintSuit(0, 0));
        check.unsupported(y, "touches none", () -> y.hintSuit(2, 0));
        check.argument(y, "the own hand ahead of none", () -> y.hintSuit(0, 2));
        y.play(0);
        y.play(0);
        y.play(0);
        check.state(y, "over", () -> y.hintSuit(1, 0));
    }

    private static void hintRank() {
        Hintworks x = Laid.game("nnn", THREE);
        check.due("two of five", x.hintRank(1, 2), 2);
        check.due("touched", x.kinds(1, 0), 2);
        check.due("touched too", x.kinds(1, 4), 2);
        check.due("not touched", x.kinds(1, 1), 10);
        check.due("to a player behind", x.hintRank(2, 3), 2);
        check.due("to a player ahead", x.hintRank(1, 1), 1);
        check.due("clues", x.clues(), 5);
        check.due("turn", x.turn(), 0);
        check.due("deck", x.deck(), 15);
    }

    private static void hintRankRefuses() {
        Hintworks x = new Hintworks();
        check.state(x, "not started", () -> x.hintRank(1, 1));
        check.state(x, "not started ahead of range", () -> x.hintRank(9, 9));
        Hintworks y = Laid.game("nnn", THREE);
        check.range(y, "player above", () -> y.hintRank(3, 1));
        check.range(y, "player below", () -> y.hintRank(-1, 1));
        check.range(y, "player ahead of rank", () -> y.hintRank(3, 0));
        check.argument(y, "rank 0", () -> y.hintRank(1, 0));
        check.argument(y, "rank 6", () -> y.hintRank(1, 6));
        check.argument(y, "rank below", () -> y.hintRank(1, Integer.MIN_VALUE));
        check.argument(y, "the own hand", () -> y.hintRank(0, 1));
        check.unsupported(y, "touches none", () -> y.hintRank(1, 4));
        y.play(0);
        y.play(0);
        y.play(0);
        check.state(y, "over", () -> y.hintRank(1, 1));
    }

    private static void noClueLeft() {
        Hintworks x = Laid.game("nn", TWO, 13);
        for (int round = 0; round < 4; round++) {
            x.hintRank(1, 2);
            x.hintRank(0, 1);
        }
        check.due("no clue", x.clues(), 0);
        check.unsupported(x, "a rank without a clue", () -> x.hintRank(1, 2));
        check.unsupported(x, "a suit without a clue", () -> x.hintSuit(1, 0));
        check.argument(x, "the own hand ahead of the clues", () -> x.hintRank(0, 1));
        x.discard(0);
        check.due("with a clue again", x.hintRank(0, 1), 2);
    }
}
