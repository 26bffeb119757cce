/** Promises 29 to 36. */
public final class PromisesTest {
    private static final Check check = new Check();
    private static final int[][] TWO = Laid.hands(Laid.hand(4, 12, 3, 11, 1), Laid.hand(2, 1, 15, 5, 2));

    public static void main(String[] args) {
        hints();
        focus();
        meaning();
        standsOfPromises();
        standsOfSaves();
        badTouch();
        badTouchOfUseless();
        finesse();
        finessesOfOneHand();
        prompt();
        connectsInOrder();
        connectsOtherSuits();
        comesFromNobody();
        faults();
        adviceToPlayAndHint();
        adviceToDiscard();
        adviceWithAllClues();
        adviceByKinds();
        refusals();
        check.end();
    }

    private static void hints() {
        Hintworks x = Laid.game("nn", TWO);
        check.due("none", x.hints(), 0);
        x.hintRank(1, 2);
        check.due("one", x.hints(), 1);
        check.unsupported(x, "not given", () -> x.hintRank(0, 5));
        x.play(1);
        check.due("still one", x.hints(), 1);
        x.hintSuit(1, 0);
        check.due("two", x.hints(), 2);
        x.game(2, 2, 0);
        check.due("none of the game before", x.hints(), 0);
    }

    private static void focus() {
        Hintworks x = Laid.game("nn", Laid.hands(Laid.hand(4, 12, 3, 11, 1), Laid.hand(12, 11, 15, 5, 2)), 14);
        x.hintRank(1, 2);
        check.due("the chop", x.focus(0), 2);
        x.hintSuit(0, 1);
        check.due("the newest one, not the chop", x.focus(1), 12);
        x.hintSuit(1, 1);
        check.due("the newest one that was not touched", x.focus(2), 11);
        x.hintSuit(0, 1);
        check.due("the newest one, all touched", x.focus(3), 12);
        x.hintSuit(1, 0);
        check.due("the chop, with older ones touched", x.focus(4), 5);
        x.discard(3);
        check.due("as it was", x.focus(4), 5);
        check.due("as it was too", x.focus(0), 2);
        Hintworks y = Laid.game("nn", Laid.hands(Laid.hand(1, 11, 12, 4, 3), Laid.hand(13, 3, 4, 14, 11)));
        y.hintRank(1, 4);
        check.due("newest of two, not the chop", y.focus(0), 4);
        y.hintRank(0, 3);
        y.hintSuit(1, 1);
        check.due("the chop ahead of newer ones", y.focus(2), 11);
        y.hintRank(0, 3);
        y.hintRank(1, 1);
        check.due("the oldest one, touched before", y.focus(4), 11);
    }

    private static void meaning() {
        int[][] hands = Laid.hands(Laid.hand(4, 12, 3, 11, 1), Laid.hand(2, 15, 1, 13, 5));
        Hintworks x = Laid.game("nn", hands, 14);
        x.hintRank(1, 5);
        check.due("a 5 on the chop", x.meaning(0), 's');
        x.hintRank(0, 4);
        x.hintRank(1, 3);
        check.due("no critical card on the chop", x.meaning(2), 'p');
        x.hintSuit(0, 1);
        check.due("not on the chop", x.meaning(3), 'p');
        Hintworks y = Laid.game("nn", hands);
        y.hintSuit(1, 1);
        check.due("the chop", y.focus(0), 15);
        check.due("a 5 beside the chop", y.meaning(0), 'p');
        Hintworks dark = Laid.game("dd", Laid.hands(Laid.hand(4, 12, 3, 5, 11), Laid.hand(2, 15, 13, 14, 1)));
        dark.hintRank(1, 1);
        check.due("a critical card that is a next one", dark.meaning(0), 'p');
        Hintworks darkTwo = Laid.game("ddn", Laid.hands(Laid.hand(4, 12, 3, 5, 11), Laid.hand(1, 15, 13, 14, 2)));
        darkTwo.hintRank(1, 2);
        check.due("a dark card on the chop", darkTwo.meaning(0), 's');
        darkTwo.hintRank(0, 4);
        darkTwo.play(0);
        darkTwo.play(2);
        check.due("by the cards as it was given", darkTwo.meaning(0), 's');
        int[][] fours = Laid.hands(Laid.hand(4, 12, 3, 11, 1), Laid.hand(2, 15, 1, 13, 4));
        Hintworks first = Laid.game("nn", fours);
        first.hintRank(1, 4);
        check.due("not the last copy on the chop", first.meaning(0), 'p');
        Hintworks last = Laid.game("nn", fours);
        last.play(0);
        last.hintRank(0, 1);
        last.hintRank(1, 4);
        check.due("the last copy on the chop", last.meaning(1), 's');
        last.play(0);
        check.due("a card ahead of it may go", last.meaning(1), 's');
    }

    private static void standsOfPromises() {
        Hintworks x = Laid.game("nn", Laid.hands(Laid.hand(4, 12, 3, 11, 1), Laid.hand(13, 2, 15, 11, 14)), 14, 13, 5);
        x.hintSuit(1, 0);
        check.due("open", x.stands(0), '-');
        x.hintSuit(0, 0);
        x.hintRank(1, 1);
        x.hintRank(0, 4);
        x.play(4);
        check.due("its focus is played", x.stands(1), 'k');
        check.due("another focus", x.stands(0), '-');
        x.discard(3);
        check.due("its focus is discarded", x.stands(2), 'b');
        check.due("still open", x.stands(0), '-');
        x.play(1);
        check.due("played with a strike", x.stands(3), 'b');
        x.play(2);
        check.due("played behind others", x.stands(0), 'k');
        check.due("as it was", x.stands(1), 'k');
        Hintworks y = Laid.game("nn", Laid.hands(Laid.hand(4, 12, 3, 11, 1), Laid.hand(13, 12, 15, 1, 14)));
        y.hintRank(1, 1);
        y.hintRank(0, 4);
        y.hintRank(1, 1);
        y.play(3);
        check.due("two hints of one focus", "" + y.stands(0) + y.stands(1) + y.stands(2), "k-k");
    }

    private static void standsOfSaves() {
        int[][] hands = Laid.hands(Laid.hand(4, 12, 3, 11, 2), Laid.hand(13, 1, 15, 11, 5));
        Hintworks x = Laid.game("nn", hands);
        x.hintRank(1, 5);
        check.due("a save", x.meaning(0), 's');
        check.due("open", x.stands(0), '-');
        x.discard(2);
        check.due("another card discarded", x.stands(0), '-');
        x.hintRank(1, 3);
        x.discard(4);
        check.due("its card is discarded", x.stands(0), 'b');
        Hintworks y = Laid.game("nn", hands);
        y.hintRank(1, 5);
        y.play(4);
        check.due("its card is a strike", y.stands(0), 'b');
        Hintworks z = Laid.game("ddn", Laid.hands(Laid.hand(4, 12, 3, 11, 1), Laid.hand(13, 5, 15, 14, 2)));
        z.hintRank(1, 2);
        check.due("a save of a 2", z.meaning(0), 's');
        z.hintRank(0, 4);
        z.play(4);
        check.due("a card ahead of it", z.stands(0), '-');
        z.play(4);
        check.due("its card is played", z.stands(0), 'k');
    }

    private static void badTouch() {
        Hintworks x = Laid.game("nn", Laid.hands(Laid.hand(4, 12, 3, 11, 1), Laid.hand(2, 1, 15, 12, 2)));
        x.hintRank(1, 2);
        check.due("both of a kind touched by it", x.badTouch(0), 2);
        x.hintSuit(0, 0);
        check.due("copies that are not touched", x.badTouch(1), 0);
        x.hintRank(1, 1);
        check.due("a copy in the hand of the giver", x.badTouch(2), 1);
        x.hintRank(0, 2);
        check.due("a copy in the other hand", x.badTouch(3), 1);
        x.hintSuit(1, 0);
        check.due("all of them again", x.badTouch(4), 3);
        x.discard(3);
        check.due("as it was", x.badTouch(2), 1);
        Hintworks y = Laid.game("nn", Laid.hands(Laid.hand(4, 12, 3, 11, 1), Laid.hand(2, 1, 15, 12, 13)));
        y.hintRank(1, 2);
        check.due("no copy", y.badTouch(0), 0);
        y.hintRank(0, 1);
        check.due("a copy not touched", y.badTouch(1), 0);
    }

    private static void badTouchOfUseless() {
        Hintworks x = Laid.game("dn", Laid.hands(Laid.hand(11, 12, 13, 2, 1), Laid.hand(3, 11, 15, 12, 5)), 14, 14);
        x.play(4);
        x.hintRank(0, 2);
        check.due("none useless", x.badTouch(0), 0);
        x.discard(4);
        x.hintRank(0, 3);
        check.due("of the other suit", x.badTouch(1), 0);
        x.hintRank(1, 5);
        check.due("one of two behind a lost card", x.badTouch(2), 1);
        Hintworks y = Laid.game("nn", Laid.hands(Laid.hand(4, 12, 3, 2, 1), Laid.hand(2, 1, 15, 11, 13)));
        y.play(4);
        y.hintRank(0, 4);
        y.hintRank(1, 1);
        check.due("a card played already", y.badTouch(1), 1);
    }

    private static Hintworks three(int[] second, int[] third) {
        return Laid.game("nn", Laid.hands(Laid.hand(15, 1, 1, 14, 14), second, third));
    }

    private static void finesse() {
        Hintworks x = three(Laid.hand(1, 13, 13, 4, 4), Laid.hand(11, 12, 11, 12, 2));
        x.hintRank(2, 2);
        check.due("the focus", x.focus(0), 2);
        check.due("the newest card of the one behind", x.finesses(0), 1);
        x.play(0);
        check.due("as it was given", x.finesses(0), 1);
        Hintworks y = three(Laid.hand(13, 11, 13, 4, 4), Laid.hand(1, 12, 11, 12, 2));
        y.hintRank(2, 2);
        check.due("the newest card of who got it", y.finesses(0), 1);
        Hintworks z = three(Laid.hand(13, 11, 13, 4, 4), Laid.hand(12, 1, 11, 12, 2));
        z.hintRank(2, 2);
        check.due("the newest one not touched by it", z.finesses(0), 1);
        Hintworks next = three(Laid.hand(1, 13, 13, 4, 4), Laid.hand(11, 12, 11, 12, 2));
        next.hintRank(1, 1);
        check.due("no card ahead", next.finesses(0), 0);
        Hintworks behind = three(Laid.hand(13, 11, 13, 4, 2), Laid.hand(1, 12, 11, 12, 3));
        behind.hintRank(1, 2);
        check.due("from behind who got it", behind.finesses(0), 1);
    }

    private static void finessesOfOneHand() {
        Hintworks x = three(Laid.hand(1, 2, 13, 4, 4), Laid.hand(11, 12, 11, 12, 3));
        x.hintRank(2, 3);
        check.due("two of one hand", x.finesses(0), 2);
        Hintworks y = three(Laid.hand(2, 1, 13, 4, 4), Laid.hand(11, 12, 11, 12, 3));
        y.hintRank(2, 3);
        check.element(y, "two of one hand in the wrong order", () -> y.finesses(0));
        Hintworks z = three(Laid.hand(1, 12, 13, 4, 4), Laid.hand(2, 11, 11, 12, 3));
        z.hintRank(2, 3);
        check.due("one of each", z.finesses(0), 2);
        Hintworks w = three(Laid.hand(2, 12, 13, 4, 4), Laid.hand(1, 11, 11, 12, 3));
        w.hintRank(2, 3);
        check.due("one of each, the later one first", w.finesses(0), 2);
    }

    private static Hintworks prompted(int[] first, int[] second, int[] third, int... drawn) {
        return Laid.game("nn", Laid.hands(first, second, third), drawn);
    }

    // The turns of the second and the third player, that touch nothing that matters.
    private static void twoTurns(Hintworks x) {
        x.hintRank(2, 3);
        x.hintRank(0, 5);
    }

    private static void prompt() {
        int[] first = Laid.hand(15, 5, 14, 14, 11);
        Hintworks x = prompted(first, Laid.hand(13, 1, 13, 4, 4), Laid.hand(11, 12, 3, 12, 2));
        x.hintRank(1, 1);
        twoTurns(x);
        x.hintRank(2, 2);
        check.due("a touched card that is it", x.finesses(3), 0);
        check.element(x, "not from the giver", () -> x.finesses(1));
        Hintworks wrong = prompted(first, Laid.hand(11, 1, 13, 4, 4), Laid.hand(11, 12, 13, 12, 2));
        wrong.hintRank(1, 1);
        twoTurns(wrong);
        wrong.hintRank(2, 2);
        check.element(wrong, "the newest touched one can be it, and is not", () -> wrong.finesses(3));
        Hintworks suit = prompted(first, Laid.hand(1, 11, 13, 4, 4), Laid.hand(12, 12, 13, 11, 2));
        suit.hintSuit(1, 1);
        twoTurns(suit);
        suit.hintRank(2, 2);
        check.due("a touched card that can't be it by its suit", suit.finesses(3), 1);
        Hintworks rank = prompted(first, Laid.hand(13, 1, 11, 4, 4), Laid.hand(12, 12, 13, 11, 2));
        rank.hintRank(1, 3);
        twoTurns(rank);
        rank.hintRank(2, 2);
        check.due("a touched card that can't be it by its rank", rank.finesses(3), 1);
        Hintworks missed = prompted(first, Laid.hand(2, 1, 13, 4, 4), Laid.hand(11, 12, 13, 11, 2));
        missed.hintSuit(1, 0);
        twoTurns(missed);
        missed.hintRank(1, 1);
        twoTurns(missed);
        missed.hintRank(2, 2);
        check.due("a touched card that can't be it as a hint missed it", missed.finesses(6), 0);
        promptOrFinesse(first);
        promptByTheFocus(first);
    }

    private static void promptOrFinesse(int[] first) {
        Hintworks x = prompted(first, Laid.hand(1, 11, 13, 4, 4), Laid.hand(12, 12, 13, 1, 2));
        x.hintRank(2, 1);
        twoTurns(x);
        x.hintRank(2, 2);
        check.due("a finesse of the first player ahead of a prompt of the second", x.finesses(3), 1);
        Hintworks y = prompted(first, Laid.hand(13, 11, 1, 4, 4), Laid.hand(1, 12, 13, 12, 2));
        y.hintSuit(1, 0);
        twoTurns(y);
        y.hintRank(2, 2);
        check.due("a prompt of the first player", y.finesses(3), 0);
        Hintworks z = prompted(first, Laid.hand(11, 13, 13, 4, 4), Laid.hand(12, 12, 3, 11, 2), 1);
        z.hintRank(1, 1);
        z.discard(4);
        z.hintRank(0, 5);
        z.hintRank(2, 2);
        check.due("a finesse by a hand whose prompt fails", z.finesses(2), 1);
    }

    private static void promptByTheFocus(int[] first) {
        Hintworks x = prompted(first, Laid.hand(13, 11, 13, 4, 4), Laid.hand(2, 1, 12, 12, 11));
        x.hintSuit(2, 0);
        check.due("the focus", x.focus(0), 2);
        check.element(x, "the focus can be it, and is not", () -> x.finesses(0));
        Hintworks y = prompted(first, Laid.hand(13, 11, 13, 4, 4), Laid.hand(1, 12, 12, 11, 2));
        y.hintSuit(2, 0);
        check.due("the focus on the chop", y.focus(0), 2);
        check.due("touched by this hint", y.finesses(0), 0);
        Hintworks z = prompted(first, Laid.hand(1, 2, 13, 12, 13), Laid.hand(12, 11, 4, 4, 3));
        z.hintSuit(1, 0);
        z.hintRank(2, 4);
        z.hintRank(0, 5);
        z.hintRank(2, 3);
        check.element(z, "one that came already can be it, and is not", () -> z.finesses(3));
    }

    private static void connectsInOrder() {
        Hintworks x = three(Laid.hand(1, 13, 13, 4, 4), Laid.hand(11, 12, 2, 12, 5));
        x.hintRank(1, 4);
        x.hintRank(2, 2);
        x.hintRank(0, 5);
        x.hintRank(2, 5);
        check.due("a save", x.meaning(3), 's');
        check.element(x, "a 2 of nobody", () -> x.finesses(3));
        Hintworks y = three(Laid.hand(1, 3, 13, 4, 4), Laid.hand(2, 13, 11, 12, 5));
        y.hintRank(2, 5);
        check.due("of a save likewise", y.meaning(0), 's');
        check.element(y, "4 is not the newest one", () -> y.finesses(0));
        Hintworks z = three(Laid.hand(1, 3, 4, 13, 13), Laid.hand(2, 12, 11, 12, 5));
        z.hintRank(2, 5);
        check.due("four of two hands", z.finesses(0), 4);
        Hintworks w = three(Laid.hand(13, 1, 4, 13, 4), Laid.hand(11, 12, 11, 12, 2));
        w.play(1);
        w.hintRank(2, 2);
        check.due("played cards aside", w.finesses(0), 0);
        Hintworks giver = Laid.game("nn", Laid.hands(Laid.hand(1, 13, 13, 4, 4), Laid.hand(11, 12, 12, 11, 2)));
        giver.hintRank(1, 2);
        check.element(giver, "not from the giver", () -> giver.finesses(0));
        connectsByOldestCards();
    }

    // The first card of the deck is the oldest one of the first player.
    private static void connectsByOldestCards() {
        Hintworks giver = Laid.game("nnn", Laid.hands(Laid.hand(13, 13, 4, 4, 1), Laid.hand(22, 12, 12, 2, 2)));
        giver.hintRank(1, 2);
        check.element(giver, "not from the giver, all others touched", () -> giver.finesses(0));
        int[][] hands = Laid.hands(Laid.hand(2, 13, 14, 12, 1), Laid.hand(11, 4, 13, 14, 3));
        Hintworks hidden = Laid.game("nn", hands);
        hidden.hintRank(1, 4);
        hidden.hintSuit(0, 1);
        hidden.hintRank(1, 4);
        hidden.hintRank(0, 2);
        check.due("the focus", hidden.focus(3), 2);
        check.due("the oldest one by a finesse", hidden.finesses(3), 1);
        Hintworks touched = Laid.game("nn", hands);
        touched.hintRank(1, 4);
        touched.hintRank(0, 1);
        touched.hintRank(1, 4);
        touched.hintSuit(0, 0);
        check.due("the focus then", touched.focus(3), 2);
        check.due("the oldest one by a prompt", touched.finesses(3), 0);
        Hintworks behind = Laid.game("nn", Laid.hands(Laid.hand(1, 11, 11, 14, 14), Laid.hand(13, 13, 4, 4, 12),
                Laid.hand(11, 12, 15, 3, 2)));
        behind.hintRank(1, 3);
        behind.hintRank(2, 2);
        check.due("from the first player, behind the last one", behind.finesses(1), 1);
    }

    private static void connectsOtherSuits() {
        Hintworks x = Laid.game("rn", Laid.hands(Laid.hand(15, 13, 13, 14, 14), Laid.hand(5, 11, 3, 4, 4),
                Laid.hand(11, 12, 11, 12, 3)));
        x.hintRank(2, 3);
        check.element(x, "4 of a reversed suit, not the newest", () -> x.finesses(0));
        Hintworks y = Laid.game("rn", Laid.hands(Laid.hand(15, 13, 13, 14, 14), Laid.hand(5, 4, 3, 1, 2),
                Laid.hand(11, 12, 11, 12, 3)));
        y.hintRank(2, 3);
        check.due("down from 5", y.finesses(0), 2);
    }

    private static void comesFromNobody() {
        Hintworks x = three(Laid.hand(13, 1, 13, 4, 4), Laid.hand(11, 12, 11, 12, 2));
        x.hintRank(2, 2);
        check.element(x, "1 is not the newest one", () -> x.finesses(0));
        check.due("the other answers stand", x.focus(0) + " " + x.meaning(0) + " " + x.stands(0), "2 p -");
        Hintworks z = Laid.game("dn", Laid.hands(Laid.hand(1, 11, 12, 13, 14), Laid.hand(13, 12, 14, 11, 3)), 15, 5);
        z.play(1);
        z.hintRank(0, 4);
        z.discard(1);
        z.hintRank(0, 3);
        z.hintRank(1, 3);
        check.element(z, "behind a lost card", () -> z.finesses(2));
    }

    private static void faults() {
        Hintworks x = Laid.game("nn", TWO, 13, 14, 14);
        check.range(x, "player below", () -> x.faults(-1));
        check.range(x, "player above", () -> x.faults(2));
        x.hintRank(1, 2);
        x.hintSuit(0, 0);
        check.due("no fault", x.faults(0) + x.faults(1), 0);
        x.hintRank(1, 2);
        check.due("a hint of nothing new", x.faults(0), 1);
        x.hintRank(0, 1);
        check.due("a hint of one new card", x.faults(1), 0);
        x.hintSuit(1, 0);
        check.due("some new ones", x.faults(0), 1);
        x.discard(3);
        check.due("a discard that is not known to be played", x.faults(1), 0);
        x.discard(3);
        check.due("a discard of a card known to be played", x.faults(0), 2);
        check.due("of the other none", x.faults(1), 0);
        x.play(0);
        check.due("a strike", x.faults(1), 1);
        Hintworks y = Laid.game("nn", TWO);
        y.hintRank(1, 2);
        y.hintRank(0, 4);
        check.due("a hint of the newest card alone", y.faults(1), 0);
        y.hintRank(1, 5);
        y.hintRank(0, 4);
        check.due("the newest card again", y.faults(1), 1);
        x.play(4);
        check.due("a play that fits", x.faults(0), 2);
        check.due("faults at last", x.faults(1), 1);
        x.game(2, 2, 0);
        check.due("none of the game before", x.faults(0), 0);
    }

    private static void adviceToPlayAndHint() {
        Hintworks x = Laid.game("nn", TWO, 13, 13);
        check.due("a hint of a suit that touches a next one", x.advice(), 200);
        x.hintRank(1, 2);
        check.due("a hint to the first player", x.advice(), 100);
        x.hintSuit(0, 0);
        check.due("again to the second", x.advice(), 200);
        x.hintRank(1, 1);
        check.due("a play", x.advice(), 11);
        x.play(1);
        check.due("next ones touched already", x.advice(), 23);
        x.hintRank(1, 2);
        check.due("a next one of the second suit", x.advice(), 101);
        Hintworks y = Laid.game("nn", Laid.hands(Laid.hand(1, 12, 3, 11, 1), Laid.hand(2, 3, 15, 5, 2)));
        y.hintRank(1, 2);
        y.hintRank(0, 1);
        check.due("the newest one to play", y.advice(), 10);
        Hintworks z = Laid.game("nnn", Laid.hands(Laid.hand(2, 3, 4, 14, 15), Laid.hand(2, 3, 4, 12, 13),
                Laid.hand(12, 13, 21, 22, 23)));
        check.due("to the second behind", z.advice(), 302);
        z.hintRank(1, 2);
        check.due("to the first behind", z.advice(), 302);
        z.hintRank(0, 2);
        check.due("nothing to hint to others", z.advice(), 24);
    }

    private static void adviceToDiscard() {
        Hintworks x = Laid.game("nn", Laid.hands(Laid.hand(3, 4, 5, 14, 13), Laid.hand(3, 4, 12, 14, 13)), 12, 2, 2);
        check.due("all clues, a hint that touches a card", x.advice(), 200);
        x.hintRank(1, 2);
        check.due("the chop", x.advice(), 24);
        x.hintRank(0, 3);
        check.due("the chop of the first", x.advice(), 23);
        x.hintRank(1, 3);
        x.hintSuit(0, 0);
        x.hintSuit(1, 1);
        x.hintSuit(0, 1);
        check.due("all touched, the oldest", x.advice(), 24);
        Hintworks y = Laid.game("nn", Laid.hands(Laid.hand(1, 4, 1, 14, 13), Laid.hand(3, 4, 1, 11, 13)), 14, 5);
        y.play(0);
        y.play(3);
        y.hintRank(1, 3);
        y.hintRank(0, 1);
        check.due("known to be useless", y.advice(), 22);
        y.hintRank(1, 1);
        check.due("known to be useless, moved on", y.advice(), 23);
        Hintworks z = Laid.game("nn", Laid.hands(Laid.hand(1, 11, 3, 14, 13), Laid.hand(1, 4, 3, 11, 13)), 14, 5);
        z.play(0);
        z.play(3);
        z.hintRank(1, 1);
        z.discard(1);
        z.hintRank(1, 3);
        check.due("chop behind useless ones", z.advice(), 22);
        oneClue();
    }

    private static void oneClue() {
        Hintworks x = Laid.game("nn", TWO, 13);
        for (int round = 0; round < 3; round++) {
            x.hintRank(1, 2);
            x.hintRank(0, 4);
        }
        x.hintRank(1, 2);
        check.due("with one clue", x.advice(), 100);
        x.hintRank(0, 4);
        check.due("without a clue", x.advice(), 24);
        x.discard(3);
        check.due("clues", x.clues(), 1);
    }

    private static void adviceWithAllClues() {
        Hintworks x = Laid.game("un", Laid.hands(Laid.hand(12, 12, 5, 14, 13), Laid.hand(2, 2, 3, 3, 4)));
        check.due("the first hint that touches a card, of a rank", x.advice(), 212);
        Hintworks y = Laid.game("nn", Laid.hands(Laid.hand(3, 4, 5, 14, 13), Laid.hand(13, 14, 12, 12, 15)));
        check.due("the first hint that touches a card, of a suit", y.advice(), 201);
        Hintworks z = Laid.game("nn", Laid.hands(Laid.hand(3, 4, 5, 14, 13), Laid.hand(1, 14, 12, 12, 15)));
        z.hintRank(1, 1);
        z.hintRank(0, 3);
        check.due("a next one touched already", z.advice(), 23);
        Hintworks fives = Laid.game("uuuuu", Laid.hands(Laid.hand(3, 4, 3, 14, 13), Laid.hand(5, 15, 25, 35, 45)));
        check.due("the last rank", fives.advice(), 215);
        Hintworks newest = Laid.game("nn", Laid.hands(Laid.hand(3, 4, 5, 14, 13), Laid.hand(11, 4, 3, 12, 13)));
        check.due("a next one that is the newest", newest.advice(), 201);
    }

    private static void adviceByKinds() {
        Hintworks x = Laid.game("wn", Laid.hands(Laid.hand(3, 4, 5, 14, 13), Laid.hand(3, 1, 4, 13, 14)));
        check.due("no hint is of the kind w", x.advice(), 201);
        Hintworks y = Laid.game("un", Laid.hands(Laid.hand(3, 4, 5, 14, 13), Laid.hand(3, 1, 4, 13, 14)));
        check.due("by the rank alone", y.advice(), 211);
        Hintworks z = Laid.game("rn", Laid.hands(Laid.hand(3, 4, 1, 14, 13), Laid.hand(3, 2, 5, 13, 14)));
        check.due("a next one of a reversed suit", z.advice(), 200);
    }

    private static void refusals() {
        Hintworks x = new Hintworks();
        check.state(x, "advice ahead of the start", () -> x.advice());
        refuseHints(x, 0);
        refuseHints(x, -1);
        Hintworks y = Laid.game("nn", TWO);
        y.hintRank(1, 2);
        refuseHints(y, 1);
        refuseHints(y, -1);
        refuseHints(y, Integer.MAX_VALUE);
        refuseHints(y, Integer.MIN_VALUE);
        y.play(0);
        y.play(0);
        y.play(0);
        check.state(y, "advice behind the end", () -> y.advice());
        check.due("a hint behind the end", y.focus(0), 2);
    }

    private static void refuseHints(Hintworks x, int hint) {
        check.range(x, "focus " + hint, () -> x.focus(hint));
        check.range(x, "meaning " + hint, () -> x.meaning(hint));
        check.range(x, "stands " + hint, () -> x.stands(hint));
        check.range(x, "badTouch " + hint, () -> x.badTouch(hint));
        check.range(x, "finesses " + hint, () -> x.finesses(hint));
    }
}
