/** What the document's terms say of knowledge, of what is known, and of chops and focuses, sentence by sentence. */
public final class EdgesOfKnowledgeTest {
    private static final int[][] TWO = Laid.hands(Laid.hand(4, 12, 3, 11, 1), Laid.hand(2, 1, 15, 5, 2));
    private static final int[][] DARK = Laid.hands(Laid.hand(1, 2, 3, 4, 5), Laid.hand(11, 12, 13, 14, 15));
    private static final int[] FOUR_DARK = {1, 2, 3, 4, 5, 11, 12, 13, 14, 15, 21, 22, 23, 24, 25, 31, 32, 33, 34, 35};

    private final Said said = new Said();
    private final Check check = said.check();

    private EdgesOfKnowledgeTest() throws java.io.IOException {
    }

    public static void main(String[] args) throws java.io.IOException {
        EdgesOfKnowledgeTest all = new EdgesOfKnowledgeTest();
        all.knowledge();
        all.known();
        all.focus();
        all.saves();
        all.said.end();
    }

    private void knowledge() {
        said.part("Knowledge");
        said.test("By hints, a card of a hand can be what is touched by all that touched it,", this::touchedByAll);
        said.test("since it was drawn,", this::sinceDrawn);
        said.test("and by none of the hints to this player that did not.", this::notTouched);
        said.test("A player sees the other hands, what is played and discarded.", this::seen);
        said.test("A card can be one kind of cards, if hints let it, and if not all copies of this are seen by the "
                + "player.", this::notAllCopies);
        said.test("Worlds of a hand are the ways to give a kind to each of its places by this,", this::waysToGive);
        said.test("so that no kind is given more often than it has copies that are not seen.", this::noMoreThanCopies);
        said.test("What a player thinks that another one knows of a card is the same, with what both of them see "
                + "alone.", this::seenByBoth);
    }

    private void touchedByAll() {
        Hintworks x = Laid.game("nn", TWO);
        check.due("by no hint", x.kinds(1, 0), 10);
        check.due("by a suit", Laid.acted(x, "s10").kinds(1, 0), 5);
        Laid.acted(x, "r01 r12");
        check.due("by a suit and a rank", x.kinds(1, 0) + " " + x.canBe(1, 0, 2), "1 true");
        check.due("by the suit alone", x.kinds(1, 3), 4);
        Hintworks any = Laid.acted(Laid.game("nw", TWO), "s10");
        check.due("by a hint of any suit", any.kinds(1, 0) + " " + any.kinds(1, 2), "10 10");
        Hintworks none = Laid.acted(Laid.game("nu", TWO), "s10");
        check.due("by a hint that does not touch u", none.kinds(1, 0) + " " + none.canBe(1, 0, 15), "5 false");
        Hintworks rank = Laid.acted(Laid.game("wu", TWO), "r15");
        check.due("by a rank", rank.kinds(1, 2), 2);
        check.due("by a rank, of either suit", rank.canBe(1, 2, 5) && rank.canBe(1, 2, 15), true);
    }

    private void sinceDrawn() {
        Hintworks x = Laid.acted(Laid.game("nn", TWO, 12), "r12 p3");
        check.due("drawn behind the hint", x.canBe(1, 0, 12), true);
        check.due("all but the 5 that is discarded", x.kinds(1, 0), 9);
        check.due("held as it came", x.kinds(1, 1), 2);
        check.due("not touched as it came", x.canBe(1, 2, 12), false);
        Laid.acted(x, "r12");
        check.due("touched by the next hint", x.kinds(1, 0), 2);
    }

    private void notTouched() {
        Hintworks x = Laid.acted(Laid.game("nn", TWO), "r12");
        check.due("not by its rank", x.kinds(1, 1) + " " + x.canBe(1, 1, 2) + " " + x.canBe(1, 1, 12), "8 false false");
        check.due("nothing by a hint to another player", x.canBe(0, 1, 12), true);
        Hintworks suit = Laid.acted(Laid.game("nn", TWO), "s11");
        check.due("not of its suit", suit.kinds(1, 0) + " " + suit.canBe(1, 0, 11), "5 false");
        int[][] hands = Laid.hands(Laid.hand(4, 12, 3, 11, 1), Laid.hand(1, 11, 21, 22, 23));
        Hintworks u = Laid.acted(Laid.game("nwu", hands), "s10");
        check.due("not by a suit, so of the kind u", u.kinds(1, 2) + " " + u.canBe(1, 2, 25), "5 true");
        check.due("of the kind w it is touched", u.canBe(1, 2, 14) + " " + u.canBe(1, 1, 14), "false true");
    }

    private void seen() {
        int[] behind = {21, 22};
        Hintworks x = Laid.game("ddd", DARK, behind);
        check.due("the other hand", x.canBe(0, 0, 11), false);
        check.due("not the own one", x.canBe(0, 0, 2), true);
        check.due("not the deck", x.canBe(0, 0, 21) + " " + x.canBe(1, 0, 25), "true true");
        check.due("ahead of the play", x.canBe(0, 1, 1), true);
        Laid.acted(x, "p0");
        check.due("what is played", x.canBe(0, 1, 1), false);
        check.due("what another one drew", x.canBe(1, 0, 21), false);
        check.due("not what is drawn to the own hand", x.canBe(0, 1, 21), true);
        check.due("ahead of the strike", x.canBe(1, 1, 15), true);
        Laid.acted(x, "p4");
        check.due("what is a strike", x.canBe(1, 1, 15), false);
        Hintworks y = Laid.acted(Laid.game("ddd", DARK, behind), "s11");
        check.due("ahead of the discard", y.canBe(1, 1, 14), true);
        check.due("what is discarded", Laid.acted(y, "d3").canBe(1, 1, 14), false);
        check.due("by the other one", y.canBe(0, 1, 14), false);
    }

    private static boolean canSecondBe(int card, int... held) {
        return Laid.game("nn", Laid.hands(held, Laid.hand(3, 4, 13, 13, 14))).canBe(1, 0, card);
    }

    private void notAllCopies() {
        check.due("two of three seen", canSecondBe(1, 1, 1, 11, 12, 12), true);
        check.due("three of three seen", canSecondBe(1, 1, 1, 1, 12, 12), false);
        check.due("one of two seen", canSecondBe(2, 2, 1, 1, 12, 12), true);
        check.due("two of two seen", canSecondBe(12, 2, 1, 1, 12, 12), false);
        check.due("the only copy not seen", canSecondBe(15, 2, 1, 1, 12, 12), true);
        check.due("the only copy seen", canSecondBe(15, 15, 1, 1, 12, 12), false);
        int[][] hands = Laid.hands(Laid.hand(1, 1, 11, 12, 12), Laid.hand(3, 4, 13, 1, 14));
        Hintworks x = Laid.acted(Laid.game("nn", hands, 15, 2), "p0");
        check.due("one played, one in a hand", x.canBe(1, 0, 1), true);
        check.due("one played, one discarded, one in a hand", Laid.acted(x, "p3").canBe(1, 1, 1), false);
        int[][] down = Laid.hands(Laid.hand(5, 5, 5, 12, 12), Laid.hand(3, 4, 13, 13, 14));
        check.due("three 5 of a reversed suit seen", Laid.game("rn", down).canBe(1, 0, 5), false);
        check.due("the only 1 of a reversed suit not seen", Laid.game("rn", down).canBe(1, 0, 1), true);
    }

    private void waysToGive() {
        Hintworks x = Laid.game("dd", DARK);
        check.due("five kinds", x.worlds(0), 120);
        check.due("one place told", Laid.acted(x, "s11 r01").worlds(0), 24);
        Hintworks told = Laid.game("wd", Laid.hands(Laid.hand(1, 1, 1, 3, 4), Laid.hand(2, 2, 3, 4, 5)));
        check.due("not told yet", told.worlds(0) > 1, true);
        int[][] all = Laid.hands(Laid.hand(1, 1, 1, 2, 2), Laid.hand(3, 3, 4, 4, 5));
        check.due("one world", Laid.acted(Laid.game("n", all), "r13 r01").worlds(0), 1);
        check.due("of four places", Laid.acted(Laid.game("n", all), "p0").worlds(0), 6);
        check.due("of the places that a hint left", Laid.acted(Laid.game("n", all), "r13").worlds(1), 3);
    }

    // Ten kinds of one copy; one hint tells 5 or 25, and who holds it draws a card that could be the 5 by itself.
    private void noMoreThanCopies() {
        Hintworks x = Laid.game("ddd", DARK, 21);
        check.due("ten kinds", x.worlds(0), 10 * 9 * 8 * 7 * 6);
        check.due("two kinds for one place", Laid.acted(x, "s11 r05").worlds(0), 2 * 8 * 7 * 6 * 5);
        check.due("a place for all kinds", Laid.acted(x, "p0").worlds(0), 2 * 7 * 6 * 5 * 5);
        check.due("its kinds", x.kinds(0, 0) + " " + x.kinds(0, 1) + " " + x.kinds(0, 4), "9 7 2");
        int[][] some = Laid.hands(Laid.hand(1, 1, 1, 2, 2), Laid.hand(3, 3, 4, 4, 5));
        check.due("three copies and two", Laid.game("n", some).worlds(0), 10);
        check.due("two copies twice and one", Laid.game("n", some).worlds(1), 30);
    }

    private void seenByBoth() {
        Hintworks two = Laid.game("dd", DARK);
        check.due("of two players, no hand", two.thinks(0, 1, 0) + " " + two.thinks(1, 0, 4), "10 10");
        check.due("of oneself, the other hand", two.thinks(1, 1, 0) + " " + two.kinds(1, 0), "5 5");
        check.due("what is played", Laid.acted(two, "p0").thinks(0, 1, 0), 9);
        Hintworks three = Laid.game("ddd", Laid.hands(DARK[0], DARK[1], Laid.hand(21, 22, 23, 24, 25)));
        check.due("of three players, the third hand", three.thinks(0, 1, 0) + " " + three.thinks(2, 0, 0), "10 10");
        Hintworks four = Laid.inOrder(4, "dddd", FOUR_DARK);
        check.due("of four players, two hands", four.thinks(0, 1, 0) + " " + four.thinks(2, 3, 3), "12 12");
        check.due("of oneself, three hands", four.thinks(1, 1, 0), 8);
        Laid.acted(four, "p3");
        check.due("what is played too", four.thinks(0, 1, 0) + " " + four.thinks(2, 3, 3), "11 11");
        check.due("what is played, by oneself", four.thinks(1, 1, 0), 7);
        Hintworks hinted = Laid.acted(Laid.game("nn", TWO), "r12");
        check.due("by hints", hinted.thinks(0, 1, 0) + " " + hinted.thinks(0, 1, 1), "2 8");
        check.due("what is discarded", Laid.acted(hinted, "d2").thinks(0, 1, 2), 7);
    }

    // ---- Known

    private void known() {
        said.part("Known");
        said.test("A place is known to be played, if all kinds that the card can be are next ones of their suits;",
                this::allAreNext);
        said.test("known to be useless, if none of them can be played any more:", this::noneCanBePlayed);
        said.test("kinds that are played,", this::played);
        said.test("or of which all copies of one ahead of it in its suit are discarded.", this::behindLostCards);
    }

    private static String knownOf(Hintworks x, int player, int place) {
        return (x.isPlayable(player, place) ? "played" : "-") + " " + (x.isUseless(player, place) ? "useless" : "-");
    }

    private void allAreNext() {
        Hintworks x = Laid.game("nn", TWO, 13, 14);
        check.due("nothing told", knownOf(x, 1, 1), "- -");
        check.due("both kinds are next ones", knownOf(Laid.acted(x, "r11"), 1, 1), "played -");
        check.due("not touched", knownOf(x, 1, 0), "- -");
        check.due("one of two kinds is one", knownOf(Laid.acted(x, "r04 p4"), 1, 1), "- -");
        Hintworks two = Laid.acted(Laid.game("nn", TWO, 13, 14), "r12");
        check.due("a rank that is not next", knownOf(two, 1, 0), "- -");
        Hintworks one = Laid.acted(Laid.game("nn", TWO, 13, 14), "p4 r04 s10 r04 r12");
        check.due("one kind", one.kinds(1, 0) + " " + knownOf(one, 1, 0), "1 played -");
        int[][] down = Laid.hands(Laid.hand(4, 2, 13, 14, 1), Laid.hand(5, 3, 15, 4, 12));
        Hintworks reversed = Laid.acted(Laid.game("rd", down), "s10 r01 r15");
        check.due("5 of a reversed suit", reversed.kinds(1, 0) + " " + knownOf(reversed, 1, 0), "1 played -");
        check.due("5 of another suit", reversed.kinds(1, 2) + " " + knownOf(reversed, 1, 2), "1 - -");
    }

    private void noneCanBePlayed() {
        Hintworks x = Laid.acted(Laid.game("nn", TWO, 13, 14, 13), "r11 r04 p4");
        check.due("one of two kinds can", knownOf(x, 1, 1), "- -");
        Laid.acted(x, "r01 p4");
        check.due("none of them can", x.kinds(1, 1) + " " + knownOf(x, 1, 1), "2 - useless");
    }

    private void played() {
        Hintworks x = Laid.inOrder(2, "nn", 1, 2, 3, 4, 5, 2, 11, 3, 1, 4, 12, 13);
        check.due("nothing of it is played", knownOf(Laid.acted(x, "s10 s00"), 1, 0), "- -");
        Laid.acted(x, "p4 p4 p4");
        check.due("5 can be played", knownOf(x, 1, 1) + ", " + knownOf(x, 1, 4), "- -, - -");
        Laid.acted(x, "p4 p4");
        check.due("the whole suit", knownOf(x, 1, 2) + ", " + knownOf(x, 1, 3) + ", " + knownOf(x, 1, 4),
                "- useless, - useless, - useless");
        check.due("drawn, of any suit", knownOf(x, 1, 0), "- -");
    }

    private void behindLostCards() {
        int[][] hands = Laid.hands(Laid.hand(2, 2, 11, 12, 13), Laid.hand(3, 4, 5, 1, 14));
        Hintworks x = Laid.acted(Laid.game("nn", hands, 15, 11), "s10 r01 r13 r01");
        check.due("a 3 with both copies of 2", x.kinds(1, 0) + " " + knownOf(x, 1, 0), "1 - -");
        check.due("with one copy", knownOf(Laid.acted(x, "p0 r01"), 1, 0), "- -");
        check.due("with none", knownOf(Laid.acted(x, "p1 r01"), 1, 0), "- useless");
        Laid.acted(x, "r11");
        check.due("1 ahead of what is lost", x.kinds(1, 3) + " " + knownOf(x, 1, 3), "1 played -");
        check.due("what is left of the suit", x.kinds(1, 1) + " " + knownOf(x, 1, 1), "2 - useless");
        check.due("another suit", knownOf(x, 1, 4), "- -");
        int[][] lastLost = Laid.hands(Laid.hand(5, 2, 11, 12, 13), Laid.hand(3, 4, 3, 1, 14));
        Hintworks last = Laid.acted(Laid.game("nn", lastLost, 15), "s10 r01 r14 r01 p0");
        check.due("4 ahead of a lost 5", last.kinds(1, 1) + " " + knownOf(last, 1, 1), "1 - -");
        int[][] down = Laid.hands(Laid.hand(4, 4, 11, 12, 13), Laid.hand(3, 5, 2, 1, 14));
        Hintworks reversed = Laid.acted(Laid.game("rn", down, 15, 14), "s10 r01 r13 r01 p0 r01");
        check.due("reversed, one copy of 4", knownOf(reversed, 1, 0), "- -");
        Laid.acted(reversed, "p1 r01 r15");
        check.due("reversed, no copy of 4", knownOf(reversed, 1, 0), "- useless");
        check.due("reversed, 5 ahead of them", knownOf(reversed, 1, 1), "played -");
    }

    // ---- Focus

    private void focus() {
        said.part("Focus");
        said.test("The chop of a hand is its oldest card that no hint touched.", this::chops);
        said.test("The focus of a hint is the chop, if it touched this;", this::focusOnTheChop);
        said.test("otherwise the newest card that it touched first of all hints;", this::focusFirstTouched);
        said.test("otherwise the newest one that it touched.", this::focusTouchedAgain);
    }

    private void chops() {
        Hintworks x = Laid.game("nn", TWO, 14);
        check.due("no hint", x.chop(0) + " " + x.chop(1), "4 4");
        check.due("the oldest touched", Laid.acted(x, "r12").chop(1), 3);
        check.due("of the other hand", x.chop(0), 4);
        Laid.acted(x, "r01 r15");
        check.due("one left", x.chop(1), 1);
        Laid.acted(x, "r01");
        check.refused(Check.ELEMENT, () -> Laid.acted(Laid.game("nn", TWO), "r12 r01 r15 r01 r11"),
                "no card that no hint touched", y -> y.chop(1));
        Laid.acted(x, "r11 d4");
        check.due("a drawn card", x.chop(1) + " " + x.chop(0), "0 2");
        check.due("of four players", Laid.inOrder(4, "nn").chop(3), 3);
        check.due("of four cards", Laid.acted(Laid.inOrder(2, "n"), "p0").chop(0), 3);
        Hintworks newest = Laid.game("nn", Laid.hands(TWO[0], Laid.hand(3, 1, 1, 2, 2)));
        check.due("the newest left", Laid.acted(newest, "r11 r01 r12").chop(1), 0);
    }

    private static int focusOf(int[] held, String hints) {
        Hintworks x = Laid.acted(Laid.game("nn", Laid.hands(Laid.hand(4, 13, 3, 13, 1), held)), hints);
        return x.focus(x.hints() - 1);
    }

    private void focusOnTheChop() {
        check.due("the oldest card", focusOf(Laid.hand(2, 1, 15, 5, 3), "s10"), 3);
        check.due("the oldest alone", focusOf(Laid.hand(2, 1, 15, 5, 3), "r13"), 3);
        check.due("older ones touched", focusOf(Laid.hand(12, 11, 15, 5, 3), "s10 r01 s11"), 15);
        check.due("the newest card, the last one left", focusOf(Laid.hand(2, 11, 12, 15, 11), "s11 r01 r12"), 2);
    }

    private void focusFirstTouched() {
        check.due("the newest of three", focusOf(Laid.hand(12, 11, 15, 5, 3), "s11"), 12);
        check.due("one alone", focusOf(Laid.hand(12, 11, 15, 5, 3), "r15"), 15);
        check.due("the newest one touched ahead", focusOf(Laid.hand(12, 11, 15, 5, 3), "r12 r01 s11"), 11);
        check.due("the newest two touched ahead", focusOf(Laid.hand(12, 11, 15, 5, 3), "r12 r01 r11 r01 s11"), 15);
    }

    private void focusTouchedAgain() {
        check.due("all touched ahead", focusOf(Laid.hand(12, 11, 15, 5, 3), "s11 r01 s11"), 12);
        check.due("one of them", focusOf(Laid.hand(12, 11, 15, 5, 3), "s11 r01 r11"), 11);
        check.due("the oldest card alone", focusOf(Laid.hand(12, 11, 15, 5, 3), "r13 r01 r13"), 3);
        String all = "s11 r01 s10 r01 ";
        check.due("a hand with no card that no hint touched", focusOf(Laid.hand(12, 11, 15, 5, 3), all + "r15"), 15);
        check.due("the newest of such a hand", focusOf(Laid.hand(12, 11, 15, 5, 3), "s11 r01 s10 r01 s11"), 12);
    }

    private void saves() {
        said.test("A card is critical, if it is the last copy not discarded of a kind that can be played still.",
                this::critical);
        said.test("A hint to the chop is a save, if the card is critical and not a next one;", this::savesOfChops);
        said.test("any other hint is a promise that its focus can be played, now or behind others.", this::promises);
    }

    private void critical() {
        Hintworks x = new Hintworks();
        check.due("of one, two and three copies", x.isCritical(5) + " " + x.isCritical(4) + " " + x.isCritical(1),
                "true false false");
        int[][] hands = Laid.hands(Laid.hand(4, 3, 3, 2, 1), Laid.hand(2, 1, 15, 5, 14));
        Hintworks two = Laid.game("nn", hands, 11, 12);
        check.due("two copies of 2", two.isCritical(2), false);
        check.due("the last one", Laid.acted(two, "p3").isCritical(2), true);
        Laid.acted(two, "p0");
        check.due("none", two.isCritical(2), false);
        check.due("5 behind it", two.isCritical(5) + " " + two.isCritical(15), "false true");
        Hintworks one = Laid.game("nn", Laid.hands(Laid.hand(4, 12, 3, 1, 1), Laid.hand(2, 1, 15, 5, 2)), 11, 12, 13);
        Laid.acted(one, "r15 r04 d4");
        check.due("two of three copies", one.isCritical(1), false);
        check.due("the last of three copies", Laid.acted(one, "d1").isCritical(1), true);
        check.due("played", Laid.acted(one, "p4").isCritical(1), false);
        Hintworks last = Laid.acted(Laid.inOrder(2, "nn", 1, 2, 3, 4, 5), "p4 p4 p4 p4");
        check.due("the last rank", last.isCritical(5), true);
        check.due("the last rank played", Laid.acted(last, "p4").isCritical(5), false);
    }

    private static char meaningOf(String kinds, int[][] hands, String acts) {
        Hintworks x = Laid.acted(Laid.game(kinds, hands), acts);
        return x.meaning(x.hints() - 1);
    }

    private void savesOfChops() {
        int[] first = Laid.hand(4, 12, 3, 11, 1);
        int[][] five = Laid.hands(first, Laid.hand(2, 15, 1, 13, 5));
        check.due("the only copy, by its rank", meaningOf("nn", five, "r15"), 's');
        check.due("the only copy, by its suit", meaningOf("nn", five, "s10"), 's');
        int[][] four = Laid.hands(first, Laid.hand(2, 15, 1, 13, 4));
        check.due("one of two copies", meaningOf("nn", four, "r14"), 'p');
        check.due("the last copy", meaningOf("nn", four, "p0 r01 r14"), 's');
        int[][] dark = Laid.hands(Laid.hand(4, 12, 3, 5, 1), Laid.hand(15, 13, 14, 11, 2));
        check.due("a dark 2", meaningOf("ddn", dark, "r12"), 's');
        check.due("a dark 2 that is a next one", meaningOf("ddn", dark, "p4 r04 r12"), 'p');
        int[][] behind = Laid.hands(Laid.hand(4, 12, 3, 1, 2), Laid.hand(15, 13, 14, 11, 5));
        check.due("a 5 behind a lost 2", meaningOf("ddn", behind, "p4 r04 r15"), 'p');
        int[][] down = Laid.hands(Laid.hand(4, 12, 3, 11, 2), Laid.hand(2, 15, 4, 13, 1));
        check.due("1 of a reversed suit", meaningOf("rn", down, "r11"), 's');
    }

    private void promises() {
        int[][] five = Laid.hands(Laid.hand(4, 12, 3, 11, 1), Laid.hand(2, 15, 1, 13, 5));
        check.due("a critical card beside the chop", meaningOf("nn", five, "s11"), 'p');
        check.due("a chop that is not critical", meaningOf("nn", five, "s10 r01 r13"), 'p');
        check.due("a critical card touched again", meaningOf("nn", five, "r15 r01 r15"), 'p');
        Hintworks x = Laid.inOrder(2, "nn", 1, 12, 3, 2, 5, 4, 11, 13, 14, 14);
        check.due("a 5 on the chop", Laid.acted(x, "p4 p3 p4 p3").score(), 4);
        check.due("it is the chop", x.cardAt(0, x.chop(0)), 5);
        check.due("it is a next one", x.isCritical(5), true);
        check.due("a next one, though critical", Laid.acted(x, "r12 r05").meaning(1), 'p');
    }
}
