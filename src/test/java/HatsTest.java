/** Promises 37 to 40. */
public final class HatsTest {
    private static final Check check = new Check();
    private static final int[][] TWO = Laid.hands(Laid.hand(4, 12, 3, 11, 1), Laid.hand(2, 1, 15, 5, 2));
    private static final int[][] THREE = Laid.hands(Laid.hand(4, 12, 3, 11, 1), Laid.hand(22, 1, 15, 25, 2),
            Laid.hand(13, 14, 13, 14, 12));

    public static void main(String[] args) {
        hat();
        code();
        learns();
        refusals();
        bestOfTheFirst();
        bestOfTwo();
        bestWithoutClues();
        bestAtTheEnd();
        bestRefuses();
        check.end();
    }

    private static void hat() {
        Hintworks x = Laid.game("nn", TWO, 13);
        check.due("first hat", x.hat(0), 7);
        check.due("second hat", x.hat(1), 1);
        x.play(4);
        check.due("a hat changes with the hand", x.hat(0), (31 - 1 + 13) % 8);
        Hintworks y = Laid.game("nnn", THREE);
        check.due("third hat", y.hat(2), 2);
    }

    private static void code() {
        Hintworks x = Laid.game("nn", TWO);
        check.due("of two, the other hat", x.code(0), 1);
        check.due("of two, from the other side", x.code(1), 7);
        Hintworks y = Laid.game("nnn", THREE);
        check.due("of three", y.code(0), 3);
        check.due("of three, modulo 8", y.code(1), 1);
        check.due("of three, 0", y.code(2), 0);
    }

    private static void learns() {
        Hintworks x = Laid.game("nn", TWO);
        check.due("of two", x.learns(0, 1), 1);
        check.due("of two, from the other side", x.learns(1, 0), 7);
        Hintworks y = Laid.game("nnn", THREE);
        int[] hats = {7, 1, 2};
        for (int giver = 0; giver < 3; giver++) {
            for (int player = 0; player < 3; player++) {
                if (giver != player) {
                    check.due("of three, " + giver + " to " + player, y.learns(giver, player), hats[player]);
                }
            }
        }
    }

    private static void refusals() {
        Hintworks x = new Hintworks();
        check.state(x, "hat ahead of the start", () -> x.hat(9));
        check.state(x, "code ahead of the start", () -> x.code(9));
        check.state(x, "learns ahead of the start", () -> x.learns(9, 9));
        check.state(x, "best ahead of the start", () -> x.best(9));
        x.start();
        check.range(x, "hat, player above", () -> x.hat(2));
        check.range(x, "hat, player below", () -> x.hat(-1));
        check.range(x, "code, player above", () -> x.code(2));
        check.range(x, "code, player below", () -> x.code(-1));
        check.range(x, "learns, giver above", () -> x.learns(2, 0));
        check.range(x, "learns, player above", () -> x.learns(0, 2));
        check.range(x, "learns, both above", () -> x.learns(2, 2));
        check.range(x, "learns, giver below", () -> x.learns(-1, 0));
        check.range(x, "learns, player below", () -> x.learns(0, -1));
        check.argument(x, "learns, both the same", () -> x.learns(1, 1));
    }

    private static void bestOfTheFirst() {
        Hintworks x = Laid.game("nn", TWO);
        check.due("no turn", x.best(0), 0);
        check.due("a play", x.best(1), 1);
        x.play(4);
        check.due("no turn, score 1", x.best(0), 1);
        check.due("a play of the second", x.best(1), 2);
        Hintworks y = Laid.game("nn", Laid.hands(Laid.hand(4, 12, 3, 13, 2), Laid.hand(2, 1, 15, 5, 11)));
        check.due("nothing to play", y.best(1), 0);
        check.due("the second can play", y.best(2), 1);
    }

    private static void bestOfTwo() {
        Hintworks x = Laid.game("nn", TWO);
        check.due("two plays", x.best(2), 2);
        Hintworks same = Laid.game("nn", Laid.hands(Laid.hand(4, 12, 3, 13, 1), Laid.hand(3, 1, 15, 5, 1)));
        check.due("the same kind twice", same.best(2), 1);
        Hintworks behind = Laid.game("nn", Laid.hands(Laid.hand(4, 1, 3, 13, 11), Laid.hand(3, 13, 15, 5, 12)));
        check.due("one that lets the second play", behind.best(2), 2);
        Hintworks other = Laid.game("nn", Laid.hands(Laid.hand(4, 11, 3, 13, 1), Laid.hand(3, 13, 15, 5, 12)));
        check.due("the other one that lets the second play", other.best(2), 2);
        Hintworks newest = Laid.game("nn", Laid.hands(Laid.hand(1, 11, 3, 13, 4), Laid.hand(2, 13, 15, 5, 14)));
        check.due("the newest one lets the second play", newest.best(2), 2);
        Hintworks down = Laid.game("rn", Laid.hands(Laid.hand(1, 12, 13, 14, 5), Laid.hand(2, 4, 15, 13, 12)));
        check.due("a reversed suit", down.best(2), 2);
        Hintworks none = Laid.game("nn", Laid.hands(Laid.hand(4, 12, 3, 13, 3), Laid.hand(2, 5, 15, 14, 12)));
        check.due("none to play", none.best(2), 0);
        Hintworks ahead = Laid.game("nn", Laid.hands(Laid.hand(4, 12, 3, 13, 2), Laid.hand(2, 5, 15, 14, 1)), 3);
        check.due("not out of order", ahead.best(2), 1);
    }

    // Whose card does not fit lets the turn pass: by a discard without a clue, by a hint with all of them.
    private static void bestWithoutClues() {
        Hintworks x = Laid.game("nn", Laid.hands(Laid.hand(4, 12, 3, 13, 2), Laid.hand(2, 1, 15, 5, 11)));
        for (int round = 0; round < 4; round++) {
            x.hintRank(1, 2);
            x.hintRank(0, 4);
        }
        check.due("no clue", x.clues(), 0);
        check.due("by a discard", x.best(2), 1);
    }

    private static void bestAtTheEnd() {
        Hintworks x = Laid.game("n", Laid.hands(Laid.hand(2, 1, 3, 4, 5), Laid.hand(1, 1, 2, 3, 4)));
        check.due("a turn each", x.best(2), 2);
        x.play(1);
        check.due("one turn left", x.best(2), 2);
        x.hintRank(0, 2);
        check.due("over", x.best(2), 1);
        Hintworks y = Laid.game("nn", TWO);
        y.play(4);
        y.play(1);
        y.play(1);
        check.due("two turns with two strikes", y.best(2), 3);
        y.play(2);
        check.due("third strike", y.isOver(), true);
        check.due("over by strikes", y.best(2), 1);
    }

    private static void bestRefuses() {
        Hintworks x = Laid.game("nn", TWO);
        check.argument(x, "below", () -> x.best(-1));
        check.argument(x, "above", () -> x.best(3));
        check.argument(x, "far above", () -> x.best(Integer.MAX_VALUE));
        x.play(0);
        x.play(0);
        x.play(0);
        check.due("over", x.isOver(), true);
        check.argument(x, "over too", () -> x.best(3));
    }
}
