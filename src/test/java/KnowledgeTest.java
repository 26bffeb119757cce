/** Promises 19 to 28. */
public final class KnowledgeTest {
    private static final Check check = new Check();
    private static final int[][] TWO = Laid.hands(Laid.hand(4, 12, 3, 11, 1), Laid.hand(2, 1, 15, 5, 2));
    private static final int[][] THREE = Laid.hands(Laid.hand(4, 12, 3, 11, 1), Laid.hand(22, 1, 15, 25, 2),
            Laid.hand(13, 14, 13, 14, 12));

    public static void main(String[] args) {
        kinds();
        kindsOfDarkSuits();
        canBe();
        thinks();
        worlds();
        worldsAtTheLimit();
        isPlayable();
        isUseless();
        isUselessBehindLostCards();
        isCritical();
        isCriticalOfPlayed();
        mostAndPace();
        chop();
        refusals();
        check.end();
    }

    private static void kinds() {
        Hintworks x = Laid.game("nn", TWO, 14);
        check.due("less what is seen in the other hand", x.kinds(0, 3), 7);
        check.due("some copies seen", x.kinds(1, 3), 10);
        x.hintRank(1, 2);
        check.due("touched", x.kinds(1, 0), 2);
        check.due("not touched", x.kinds(1, 1), 8);
        check.due("the other hand stays", x.kinds(0, 0), 7);
        x.play(3);
        check.due("drawn behind the hint, less what is discarded", x.kinds(1, 0), 9);
        check.due("a touched card moves on", x.kinds(1, 1), 2);
        check.due("not touched, less what is discarded", x.kinds(1, 2), 7);
        check.due("nothing new for the other one", x.kinds(0, 0), 7);
        x.hintSuit(1, 0);
        check.due("both hints tell it whole", x.kinds(1, 4), 1);
        check.due("both hints", x.kinds(1, 2), 3);
        check.due("a hint that did not touch", x.kinds(1, 0), 5);
    }

    private static void kindsOfDarkSuits() {
        Hintworks x = Laid.game("dn", Laid.hands(Laid.hand(1, 11, 12, 13, 14), Laid.hand(11, 12, 13, 14, 15)), 2);
        check.due("dark cards are seen at once", x.kinds(1, 0), 9);
        check.due("all but what is seen whole", x.kinds(0, 0), 9);
        x.play(0);
        check.due("played, so seen by all", x.kinds(0, 0), 8);
        check.due("drawn into the other hand", x.kinds(1, 0), 8);
        check.due("can be what is not seen", x.canBe(0, 0, 2), true);
        check.due("can't be what is played", x.canBe(0, 0, 1), false);
    }

    private static void canBe() {
        Hintworks x = Laid.game("nn", TWO);
        check.due("its own kind", x.canBe(0, 0, 4), true);
        check.due("another one", x.canBe(0, 0, 13), true);
        check.due("all copies seen", x.canBe(0, 0, 2), false);
        check.due("the only copy seen", x.canBe(0, 0, 15), false);
        x.hintSuit(1, 1);
        check.due("touched, of the suit", x.canBe(1, 2, 11), true);
        check.due("touched, of another suit", x.canBe(1, 2, 1), false);
        check.due("not touched, of the suit", x.canBe(1, 0, 11), false);
        check.due("not touched, of another suit", x.canBe(1, 0, 5), true);
    }

    private static void thinks() {
        Hintworks x = Laid.game("nn", TWO, 14);
        check.due("both see no hand", x.thinks(1, 0, 0), 10);
        check.due("who holds it", x.thinks(0, 0, 0), 7);
        x.hintRank(1, 2);
        check.due("by the hint", x.thinks(0, 1, 0), 2);
        check.due("by the hint, not touched", x.thinks(0, 1, 1), 8);
        x.play(3);
        check.due("both see what is discarded", x.thinks(1, 0, 0), 9);
        Hintworks y = Laid.game("nnn", THREE);
        check.due("both see the third hand", y.thinks(0, 1, 0), 13);
        check.due("the same from the other side", y.thinks(1, 0, 0), 13);
        check.due("by the second hand", y.thinks(0, 2, 0), 13);
        check.due("by the first hand", y.thinks(1, 2, 0), 15);
        check.due("by the first hand, from the other side", y.thinks(2, 1, 4), 15);
        check.due("who holds it sees two hands", y.thinks(1, 1, 0), 12);
        check.due("the same as kinds", y.kinds(1, 0), 12);
    }

    private static void worlds() {
        Hintworks x = Laid.game("dd", Laid.hands(Laid.hand(1, 2, 3, 4, 5), Laid.hand(11, 12, 13, 14, 15)));
        check.due("five single kinds", x.worlds(0), 120);
        x.hintRank(1, 1);
        check.due("one of them told", x.worlds(1), 24);
        check.due("of the other hand none", x.worlds(0), 120);
        x.hintSuit(0, 0);
        check.due("a hint that tells nothing", x.worlds(0), 120);
        Hintworks y = Laid.game("n", Laid.hands(Laid.hand(1, 1, 1, 2, 2), Laid.hand(3, 3, 4, 4, 5)));
        check.due("two kinds of some copies", y.worlds(0), 10);
        check.due("three kinds of some copies", y.worlds(1), 30);
        y.hintRank(1, 3);
        check.due("the two first ones told", y.worlds(1), 3);
        y.play(0);
        check.due("four cards", y.worlds(1), 3);
    }

    private static void worldsAtTheLimit() {
        Hintworks x = Laid.game("nnnnn", Laid.hands(Laid.hand(1, 11, 21, 31, 41), Laid.hand(1, 2, 11, 21, 31)));
        check.unsupported(x, "25 kinds five times", () -> x.worlds(0));
        check.unsupported(x, "25 kinds five times, the other one", () -> x.worlds(1));
        x.hintSuit(1, 0);
        check.due("5 times 5 times 20 times 20 times 20", x.worlds(1), 186048);
        Hintworks y = Laid.game("nnnnn", Laid.hands(Laid.hand(1, 11, 21, 31, 41), Laid.hand(1, 42, 11, 21, 31)));
        y.hintSuit(1, 0);
        check.unsupported(y, "5 times 20 four times", () -> y.worlds(1));
    }

    private static void isPlayable() {
        Hintworks x = Laid.game("nn", Laid.hands(Laid.hand(4, 12, 3, 11, 1), Laid.hand(2, 1, 1, 5, 2)), 15, 13, 14);
        check.due("nothing told", x.isPlayable(1, 1), false);
        x.hintRank(1, 1);
        check.due("all kinds are next ones", x.isPlayable(1, 1), true);
        check.due("not touched", x.isPlayable(1, 0), false);
        check.due("the other hand", x.isPlayable(0, 4), false);
        x.play(1);
        check.due("one kind is played", x.isPlayable(1, 2), false);
        check.due("the other kind is not", x.isUseless(1, 2), false);
        x.play(3);
        check.due("both kinds are played", x.isUseless(1, 2), true);
        check.due("and not playable", x.isPlayable(1, 2), false);
        x.hintRank(0, 1);
        check.due("a played kind told to another one", x.isUseless(0, 4), true);
        x.hintRank(1, 2);
        check.due("twos then", x.isPlayable(1, 1), true);
        check.due("not useless", x.isUseless(1, 1), false);
        Hintworks y = Laid.game("nn", TWO);
        y.hintSuit(1, 0);
        y.hintRank(0, 4);
        y.hintRank(1, 1);
        check.due("the first kind", y.kinds(1, 1), 1);
        check.due("the first kind, known to be played", y.isPlayable(1, 1), true);
        check.due("the first kind, not useless", y.isUseless(1, 1), false);
    }

    private static void isUseless() {
        Hintworks x = Laid.game("rn", Laid.hands(Laid.hand(5, 12, 3, 11, 14), Laid.hand(5, 1, 15, 5, 2)), 13, 13, 14);
        x.hintRank(1, 5);
        check.due("one kind not next", x.isPlayable(1, 0), false);
        x.hintSuit(0, 0);
        x.hintSuit(1, 0);
        check.due("5 of a reversed suit", x.isPlayable(1, 0), true);
        check.due("5 of another suit", x.isPlayable(1, 2), false);
        x.play(0);
        check.due("played already", x.isUseless(1, 3), true);
        check.due("4 down is not", x.isUseless(1, 4), false);
    }

    private static void isUselessBehindLostCards() {
        Hintworks x = Laid.game("dn", Laid.hands(Laid.hand(11, 12, 13, 14, 1), Laid.hand(2, 3, 4, 5, 11)), 13);
        x.hintSuit(1, 0);
        check.due("can be played still", x.isUseless(1, 1), false);
        x.discard(0);
        check.due("behind a lost card", x.isUseless(1, 1), true);
        check.due("drawn", x.isUseless(1, 0), false);
        check.due("ahead of a lost card", x.isCritical(1), true);
        check.due("the lost card", x.isCritical(2), false);
        check.due("behind the lost card", x.isCritical(3), false);
        check.due("what is left", x.most(), 6);
    }

    private static void isCritical() {
        Hintworks x = new Hintworks();
        check.due("5 at first", x.isCritical(5), true);
        check.due("4 at first", x.isCritical(4), false);
        check.due("1 at first", x.isCritical(1), false);
        x.setSuit(0, 'r', 0);
        check.due("reversed 5", x.isCritical(5), false);
        check.due("reversed 1", x.isCritical(1), true);
        x.setSuit(0, 'd', 0);
        check.due("dark 1", x.isCritical(1), true);
        Hintworks y = Laid.game("nn", Laid.hands(Laid.hand(4, 3, 3, 2, 1), Laid.hand(2, 1, 15, 5, 14)), 1, 11, 12);
        check.due("two copies of 2", y.isCritical(2), false);
        y.play(3);
        check.due("one copy of 2", y.isCritical(2), true);
        y.play(0);
        check.due("no copy of 2", y.isCritical(2), false);
        check.due("5 behind it", y.isCritical(5), false);
        check.due("another suit", y.isCritical(15), true);
        check.due("1 ahead of it", y.isCritical(1), false);
        check.due("most then", y.most(), 6);
        y.play(2);
        check.due("over", y.isOver(), true);
        check.due("behind a lost card, one copy", y.isCritical(3), false);
    }

    private static void isCriticalOfPlayed() {
        Hintworks x = Laid.game("nn", Laid.hands(Laid.hand(4, 12, 3, 1, 1), Laid.hand(2, 1, 15, 5, 2)), 11, 12, 13);
        x.hintRank(1, 5);
        x.hintRank(0, 4);
        x.discard(4);
        check.due("two copies of 1", x.isCritical(1), false);
        x.discard(1);
        check.due("one copy of 1", x.isCritical(1), true);
        x.play(4);
        check.due("played", x.isCritical(1), false);
        check.due("most stays", x.most(), 10);
    }

    private static void mostAndPace() {
        Hintworks x = new Hintworks();
        check.due("most at first", x.most(), 5);
        check.due("pace at first", x.pace(), 7);
        x.game(4, 5, 1);
        check.due("most of five suits", x.most(), 25);
        check.due("pace of four players", x.pace(), 29);
        x.start();
        check.due("pace started", x.pace(), 13);
        Hintworks y = Laid.game("rd", Laid.hands(Laid.hand(1, 11, 13, 5, 5), Laid.hand(14, 4, 3, 4, 3)), 2);
        check.due("most", y.most(), 10);
        check.due("pace", y.pace(), -3);
        y.play(0);
        check.due("the last of a reversed suit lost", y.most(), 9);
        check.due("pace behind a strike", y.pace(), 5 - 1 + 2 - 9);
        y.play(0);
        check.due("two of a dark suit lost", y.most(), 7);
        y.play(4);
        check.due("most of score and rest", y.most(), 7);
        check.due("pace behind a play", y.pace(), 1 + 2 + 2 - 7);
        y.play(1);
        check.due("score", y.score(), 2);
        Hintworks dark = Laid.game("dn", Laid.hands(Laid.hand(1, 11, 13, 15, 5), Laid.hand(14, 4, 3, 11, 13)), 2);
        dark.hintRank(1, 4);
        dark.hintRank(0, 5);
        dark.discard(0);
        check.due("the first of a dark suit lost", dark.most(), 5);
        check.due("most stays", y.most(), 7);
    }

    private static void chop() {
        Hintworks x = Laid.game("nn", TWO, 14);
        check.due("the oldest", x.chop(1), 4);
        x.hintRank(1, 2);
        check.due("the oldest not touched", x.chop(1), 3);
        check.due("of the other hand", x.chop(0), 4);
        x.hintSuit(0, 0);
        x.hintSuit(1, 0);
        check.due("one not touched", x.chop(1), 2);
        x.hintRank(0, 4);
        x.hintSuit(1, 1);
        check.element(x, "all touched", () -> x.chop(1));
        x.discard(4);
        check.due("a drawn one", x.chop(1), 0);
        check.due("again the other hand", x.chop(0), 3);
    }

    private static void refusals() {
        Hintworks x = new Hintworks();
        check.state(x, "kinds ahead of the start", () -> x.kinds(9, 9));
        check.state(x, "canBe ahead of the start", () -> x.canBe(9, 9, 9));
        check.state(x, "thinks ahead of the start", () -> x.thinks(9, 9, 9));
        check.state(x, "worlds ahead of the start", () -> x.worlds(9));
        check.state(x, "isPlayable ahead of the start", () -> x.isPlayable(9, 9));
        check.state(x, "isUseless ahead of the start", () -> x.isUseless(9, 9));
        check.state(x, "chop ahead of the start", () -> x.chop(9));
        x.game(2, 5, 1);
        x.start();
        int[][] wrong = {{-1, 0}, {2, 0}, {0, -1}, {0, 5}, {Integer.MAX_VALUE, 0}, {0, Integer.MIN_VALUE}};
        for (int[] pair : wrong) {
            String what = " " + pair[0] + " " + pair[1];
            check.range(x, "kinds" + what, () -> x.kinds(pair[0], pair[1]));
            check.range(x, "canBe" + what, () -> x.canBe(pair[0], pair[1], 1));
            check.range(x, "canBe ahead of no card" + what, () -> x.canBe(pair[0], pair[1], 0));
            check.range(x, "thinks" + what, () -> x.thinks(0, pair[0], pair[1]));
            check.range(x, "thinks of the same" + what, () -> x.thinks(pair[0], pair[0], pair[1]));
            check.range(x, "isPlayable" + what, () -> x.isPlayable(pair[0], pair[1]));
            check.range(x, "isUseless" + what, () -> x.isUseless(pair[0], pair[1]));
        }
        check.range(x, "thinks, first player", () -> x.thinks(2, 0, 0));
        check.range(x, "thinks, first player below", () -> x.thinks(-1, 0, 0));
        check.range(x, "worlds, player above", () -> x.worlds(2));
        check.range(x, "worlds, player below", () -> x.worlds(-1));
        check.range(x, "chop, player above", () -> x.chop(2));
        check.range(x, "chop, player below", () -> x.chop(-1));
        check.argument(x, "canBe, no such card", () -> x.canBe(0, 0, 51));
        check.argument(x, "canBe, rank 6", () -> x.canBe(0, 0, 6));
        check.argument(x, "canBe, rank 0", () -> x.canBe(0, 0, 10));
        check.argument(x, "canBe, below", () -> x.canBe(0, 0, -1));
        check.argument(x, "isCritical, no such card", () -> x.isCritical(51));
        check.argument(x, "isCritical, rank 6", () -> x.isCritical(16));
        check.argument(x, "isCritical, rank 0", () -> x.isCritical(0));
        check.argument(x, "isCritical, below", () -> x.isCritical(Integer.MIN_VALUE));
    }
}
