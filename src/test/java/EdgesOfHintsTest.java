/** What the document's terms say of connections, blame, hats and open cards, sentence by sentence. */
public final class EdgesOfHintsTest {
    private static final int[][] TWO = Laid.hands(Laid.hand(4, 12, 3, 11, 1), Laid.hand(2, 1, 15, 5, 2));
    private static final int[][] THREE = Laid.hands(Laid.hand(4, 12, 3, 11, 1), Laid.hand(22, 1, 15, 25, 2),
            Laid.hand(13, 14, 13, 14, 12));
    // Nothing of the first suit; a hint of the rank 5 lets a turn of the other player pass.
    private static final int[] GIVER = Laid.hand(15, 14, 14, 13, 13);
    // The same for the first of three players.
    private static final int[] FIRST = Laid.hand(15, 5, 14, 14, 11);
    private static final String NOBODY = "throws java.util.NoSuchElementException";

    private final Said said = new Said();
    private final Check check = said.check();

    private EdgesOfHintsTest() throws java.io.IOException {
    }

    public static void main(String[] args) throws java.io.IOException {
        EdgesOfHintsTest all = new EdgesOfHintsTest();
        all.connections();
        all.blame();
        all.hats();
        all.open();
        all.said.end();
    }

    // ---- Connections

    private void connections() {
        said.part("Connections");
        said.test("The cards that are ahead of a focus in its suit,", this::aheadInItsSuit);
        said.test("and not played,", this::notPlayed);
        said.test("of a save likewise,", this::ofSaves);
        said.test("are to come from others than the giver:", this::fromOthers);
        said.test("each of them, by the order of the suit,", this::byTheOrderOfTheSuit);
        said.test("from the players behind the giver, by their turns,", this::byTheirTurns);
        said.test("the one who got the hint too,", this::fromWhoGotIt);
        said.test("as cards are touched behind it:", this::touchedBehindIt);
        said.test("by a prompt: the newest card that was touched and can be this by its hints, if it is this;",
                this::prompts);
        said.test("otherwise by a finesse: the newest card that was not touched,", this::finesses);
        said.test("and is no card that came so ahead of this, if it is this.", this::finessesOfOneHand);
        said.test("The newest card that was touched can be the focus, or one that came already, and is not this then.",
                this::promptsThatFail);
        said.test("The first player of whom either holds gives it.", this::firstOfWhomEitherHolds);
    }

    /** By how many finesses the last one of some hints connects. */
    private static String connects(String kinds, int[][] hands, String acts, int... drawn) {
        Hintworks x = Laid.acted(Laid.game(kinds, hands, drawn), acts);
        return Check.outcome(() -> x.finesses(x.hints() - 1));
    }

    private static String connects(String acts, int... held) {
        return connects("nn", Laid.hands(GIVER, held), acts);
    }

    private void aheadInItsSuit() {
        check.due("of 1", connects("r11", 2, 3, 4, 5, 1), 0);
        check.due("of 2", connects("r12", 1, 11, 11, 5, 2), 1);
        check.due("of 3", connects("r13", 1, 2, 12, 11, 3), 2);
        check.due("of 4", connects("r14", 1, 2, 3, 11, 4), 3);
        check.due("of 5", connects("r15", 1, 2, 3, 4, 5), 4);
        int[][] second = Laid.hands(Laid.hand(5, 4, 4, 3, 3), Laid.hand(11, 12, 13, 14, 15));
        check.due("of another suit", connects("nn", second, "r15"), 4);
        check.due("of a dark suit", connects("dnn", Laid.hands(GIVER, Laid.hand(1, 2, 3, 4, 5)), "r15"), 4);
        int[] down = Laid.hand(5, 4, 3, 2, 1);
        check.due("of the last rank of a reversed suit", connects("rn", Laid.hands(GIVER, down), "r11"), 4);
        int[] five = Laid.hand(4, 3, 2, 1, 5);
        check.due("of the first rank of a reversed suit", connects("rn", Laid.hands(GIVER, five), "r15"), 0);
    }

    private void notPlayed() {
        int[] one = Laid.hand(1, 14, 14, 13, 13);
        int[][] hands = Laid.hands(one, Laid.hand(2, 3, 4, 11, 5));
        check.due("1 is played", connects("nn", hands, "p0 r04 r15"), 3);
        int[][] two = Laid.hands(one, Laid.hand(2, 4, 12, 11, 5));
        check.due("1 and 2 are played", connects("nn", two, "p0 p0 r15", 12, 3), 2);
        check.due("all are played", connects("nn", Laid.hands(one, Laid.hand(3, 11, 4, 5, 2)), "p0 r04 r12"), 0);
        check.due("the focus too", connects("nn", Laid.hands(one, Laid.hand(2, 3, 12, 11, 1)), "p0 r04 r11"), 0);
    }

    private void ofSaves() {
        Hintworks save = Laid.acted(Laid.game("nn", Laid.hands(GIVER, Laid.hand(1, 2, 3, 4, 5))), "r15");
        check.due("a save", save.meaning(0) + " " + save.finesses(0), "s 4");
        Hintworks lost = Laid.acted(Laid.game("nn", Laid.hands(GIVER, Laid.hand(1, 2, 3, 11, 5))), "r15");
        check.due("a save with a card that comes from nobody",
                lost.meaning(0) + " " + Check.outcome(() -> lost.finesses(0)), "s " + NOBODY);
        Hintworks promise = Laid.acted(Laid.game("nn", Laid.hands(GIVER, Laid.hand(5, 1, 2, 3, 4))), "r15");
        check.due("a promise", promise.meaning(0) + " " + promise.finesses(0), "p 4");
    }

    private void fromOthers() {
        int[][] hands = Laid.hands(Laid.hand(1, 14, 14, 13, 15), Laid.hand(11, 4, 3, 5, 2));
        check.due("the giver's newest card", connects("nn", hands, "r12"), NOBODY);
        check.due("the giver's touched card", connects("nn", hands, "r15 r01 r12"), NOBODY);
        check.due("a card of the one who got it", connects("nn", hands, "r13 r01 r13 s00"), 0);
        int[][] three = Laid.hands(Laid.hand(1, 14, 14, 13, 15), Laid.hand(13, 4, 3, 5, 11),
                Laid.hand(12, 11, 4, 3, 2));
        check.due("the giver's, of three players", connects("nn", three, "r22"), NOBODY);
    }

    private void byTheOrderOfTheSuit() {
        check.due("in order", connects("r13", 1, 2, 12, 11, 3), 2);
        check.due("not in order", connects("r13", 2, 1, 12, 11, 3), NOBODY);
        check.due("down", connects("rn", Laid.hands(GIVER, Laid.hand(5, 4, 12, 11, 3)), "r13"), 2);
        check.due("not down", connects("rn", Laid.hands(GIVER, Laid.hand(4, 5, 12, 11, 3)), "r13"), NOBODY);
        int[][] three = Laid.hands(FIRST, Laid.hand(2, 12, 13, 4, 4), Laid.hand(1, 11, 13, 12, 3));
        check.due("of two players, the later one first", connects("nn", three, "r23"), 2);
        check.due("one comes, the next one does not", connects("r13", 1, 12, 2, 11, 3), NOBODY);
    }

    // A finesse of who is first, and a prompt of who is behind, or the other way round.
    private void byTheirTurns() {
        int[] giver = Laid.hand(15, 5, 11, 12, 4);
        int[][] finesse = Laid.hands(Laid.hand(13, 1, 13, 14, 2), giver, Laid.hand(1, 3, 3, 4, 11));
        check.due("the last player ahead of the first", connects("nn", finesse, "r15 r01 r15 r15 r02"), 1);
        int[][] prompt = Laid.hands(Laid.hand(1, 13, 13, 14, 2), giver, Laid.hand(3, 1, 3, 4, 11));
        check.due("the last player, by a prompt", connects("nn", prompt, "r15 r21 r15 r15 r02"), 0);
        int[][] four = Laid.hands(Laid.hand(1, 13, 13, 14), Laid.hand(3, 1, 3, 2), Laid.hand(4, 4, 12, 11),
                Laid.hand(15, 5, 14, 12));
        check.due("the first player behind the last", connects("nn", four, "r35 r35 r11 r12"), 1);
        int[][] third = Laid.hands(Laid.hand(2, 13, 13, 14), Laid.hand(3, 4, 3, 11), Laid.hand(1, 12, 4, 11),
                Laid.hand(15, 5, 14, 12));
        check.due("the last one of three behind the giver", connects("nn", third, "r35 r35 r35 r02"), 1);
    }

    private void fromWhoGotIt() {
        check.due("by a finesse", connects("r12", 1, 11, 11, 5, 2), 1);
        check.due("by a prompt", connects("r11 r05 r12", 12, 1, 3, 4, 2), 0);
        int[][] third = Laid.hands(FIRST, Laid.hand(13, 12, 13, 4, 4), Laid.hand(1, 11, 12, 3, 2));
        check.due("of three players", connects("nn", third, "r22"), 1);
        int[][] second = Laid.hands(FIRST, Laid.hand(13, 12, 13, 4, 2), Laid.hand(1, 11, 12, 3, 4));
        check.due("not of who got it alone", connects("nn", second, "r12"), 1);
    }

    private void touchedBehindIt() {
        check.due("a prompt by what it touched", connects("s10", 1, 12, 12, 11, 2), 0);
        check.due("a finesse by what it did not touch", connects("r12", 12, 1, 11, 11, 2), 1);
    }

    private void prompts() {
        check.due("touched ahead", connects("r11 r05 r12", 12, 1, 3, 4, 2), 0);
        check.due("the newest one of them", connects("r11 r05 r12", 1, 11, 3, 4, 2), 0);
        check.due("it can't be this by its suit", connects("s11 r05 r11 r05 r12", 11, 1, 3, 4, 2), 0);
        check.due("it can't be this by its rank", connects("r13 r05 r11 r05 r12", 3, 1, 11, 4, 2), 0);
        check.due("it can't be this by a hint that missed it", connects("s10 r05 r11 r05 r12", 4, 1, 11, 11, 2), 0);
        check.due("it can be this, and is not", connects("r11 r05 r12", 11, 1, 3, 4, 2), NOBODY);
    }

    private void finesses() {
        check.due("the newest card", connects("r12", 1, 11, 11, 5, 2), 1);
        check.due("the newest card is another one", connects("r12", 11, 1, 3, 5, 2), NOBODY);
        check.due("behind touched ones", connects("r13 r05 r12", 3, 1, 4, 5, 2), 1);
        check.due("the only one that was not touched", connects("s11 r05 r12", 11, 12, 11, 1, 2), 1);
        check.due("no card that was not touched", connects("r13 r05 r14 r05 r15 r05 r12", 3, 4, 5, 4, 2), NOBODY);
        int[][] hands = Laid.hands(GIVER, Laid.hand(11, 12, 3, 4, 2));
        check.due("as a prompt fails", connects("nn", hands, "r11 d1 r12", 1), 1);
        int[][] first = Laid.hands(Laid.hand(2, 13, 14, 12, 1), Laid.hand(11, 4, 13, 14, 3));
        check.due("the first card of the deck", connects("nn", first, "r14 s01 r14 r02"), 1);
        int[][] none = Laid.hands(Laid.hand(15, 14, 14, 1, 13), Laid.hand(11, 12, 4, 3, 2));
        check.due("a card of nobody", connects("nn", none, "r13"), NOBODY);
    }

    private void finessesOfOneHand() {
        check.due("two of one hand", connects("r13", 1, 2, 12, 11, 3), 2);
        check.due("the next one behind it is another", connects("r13", 1, 12, 2, 11, 3), NOBODY);
        int[][] two = Laid.hands(FIRST, Laid.hand(1, 12, 13, 4, 4), Laid.hand(2, 11, 13, 12, 3));
        check.due("one of each of two hands", connects("nn", two, "r23"), 2);
        int[][] between = Laid.hands(FIRST, Laid.hand(1, 3, 13, 4, 11), Laid.hand(2, 13, 12, 12, 4));
        check.due("with one of another hand between", connects("nn", between, "r24"), 3);
        int[][] same = Laid.hands(Laid.hand(15, 5, 14, 14, 11), Laid.hand(1, 1, 13, 4, 4), Laid.hand(12, 2, 12, 3, 3));
        check.due("another copy of what came", connects("nn", same, "r23"), NOBODY);
    }

    private void promptsThatFail() {
        check.due("it is the focus", connects("s10", 2, 1, 12, 12, 11), NOBODY);
        check.due("it came already", connects("s10", 1, 2, 12, 12, 3), NOBODY);
        int[][] hands = Laid.hands(Laid.hand(15, 5, 4, 4, 14), Laid.hand(1, 13, 13, 12, 12),
                Laid.hand(11, 11, 14, 1, 3));
        check.due("it came already, then by a finesse", connects("nn", hands, "s10 d1 r05 r23", 2), 1);
    }

    private void firstOfWhomEitherHolds() {
        int[][] finesse = Laid.hands(FIRST, Laid.hand(1, 11, 13, 4, 4), Laid.hand(12, 12, 13, 1, 2));
        check.due("a finesse of the first, a prompt of the second", connects("nn", finesse, "r21 r23 r05 r22"), 1);
        int[][] prompt = Laid.hands(FIRST, Laid.hand(13, 11, 1, 4, 4), Laid.hand(1, 12, 13, 12, 2));
        check.due("a prompt of the first, a finesse of the second", connects("nn", prompt, "s10 r23 r05 r22"), 0);
        int[][] second = Laid.hands(FIRST, Laid.hand(13, 11, 13, 4, 4), Laid.hand(1, 12, 3, 12, 2));
        check.due("neither of the first", connects("nn", second, "r22"), 1);
        int[][] none = Laid.hands(FIRST, Laid.hand(13, 1, 13, 4, 4), Laid.hand(11, 12, 1, 12, 2));
        check.due("neither of either", connects("nn", none, "r22"), NOBODY);
    }

    // ---- Blame

    private void blame() {
        said.part("Blame");
        said.test("A promise is kept as its focus is played onto its suit,", this::keptPromises);
        said.test("broken as it is discarded,", this::discardedPromises);
        said.test("or played with a strike;", this::struckPromises);
        said.test("a save is broken as its card is discarded,", this::brokenSaves);
        said.test("kept as it is played onto its suit.", this::keptSaves);
        said.test("Faults of a player are strikes,", this::faultsByStrikes);
        said.test("discards of cards that were known to be played,", this::faultsByDiscards);
        said.test("and hints that touched no card that was not touched ahead.", this::faultsByHints);
    }

    private static String standing(Hintworks x) {
        StringBuilder text = new StringBuilder();
        for (int hint = 0; hint < x.hints(); hint++) {
            text.append(x.meaning(hint)).append(x.stands(hint)).append(' ');
        }
        return text.toString().trim();
    }

    private void keptPromises() {
        Hintworks x = Laid.acted(Laid.game("nn", TWO), "r11");
        check.due("open", standing(x), "p-");
        check.due("kept", standing(Laid.acted(x, "p1")), "pk");
        Hintworks copy = Laid.acted(Laid.game("nn", TWO), "r11 r01 p4");
        check.due("a copy of the focus is played", standing(copy), "p- pk");
        Hintworks twice = Laid.acted(Laid.game("nn", TWO), "r11 r04 r11 p1");
        check.due("of two hints", standing(twice), "pk p- pk");
        check.due("kept then too", standing(Laid.acted(twice, "r12 r04 p0")), "pk pb pk p- pb");
        Hintworks behind = Laid.acted(Laid.game("nn", TWO), "r12 r01 p4");
        check.due("open, its turn comes", standing(behind), "p- pk");
        check.due("behind others", standing(Laid.acted(behind, "p4")), "pk pk");
    }

    private void discardedPromises() {
        check.due("broken", standing(Laid.acted(Laid.game("nn", TWO), "r11 d1")), "pb");
        check.due("another card is discarded", standing(Laid.acted(Laid.game("nn", TWO), "r11 d0")), "p-");
        check.due("a copy of the focus is discarded", standing(Laid.acted(Laid.game("nn", TWO), "r12 d0")), "p-");
        check.due("of two hints", standing(Laid.acted(Laid.game("nn", TWO), "r11 r04 r11 d1")), "pb p- pb");
    }

    private void struckPromises() {
        check.due("broken", standing(Laid.acted(Laid.game("nn", TWO), "r12 p4")), "pb");
        check.due("another card is a strike", standing(Laid.acted(Laid.game("nn", TWO), "r12 p2")), "p-");
        check.due("a copy of the focus is a strike", standing(Laid.acted(Laid.game("nn", TWO), "r12 p0")), "p-");
        Hintworks third = Laid.acted(Laid.game("nn", TWO), "p0 p2 r12 p4");
        check.due("by the third strike", third.isOver() + " " + standing(third), "true pb");
    }

    private static Hintworks save(String acts) {
        int[][] hands = Laid.hands(Laid.hand(4, 12, 3, 11, 2), Laid.hand(13, 1, 15, 11, 5));
        return Laid.acted(Laid.game("nn", hands), "r15 " + acts);
    }

    private void brokenSaves() {
        check.due("open", standing(save("r04")), "s- p-");
        check.due("broken", standing(save("d4")), "sb");
        check.due("another card is discarded", standing(save("d2")), "s-");
        check.due("discarded by a strike", standing(save("p4")), "sb");
        check.due("another card is a strike", standing(save("p0")), "s-");
    }

    private void keptSaves() {
        int[][] hands = Laid.hands(Laid.hand(4, 12, 3, 5, 1), Laid.hand(13, 15, 14, 11, 2));
        Hintworks x = Laid.acted(Laid.game("ddn", hands), "r12 r04 p4");
        check.due("open", standing(x), "s- p-");
        check.due("kept", standing(Laid.acted(x, "p4")), "sk p-");
    }

    private static String faults(Hintworks x) {
        return x.faults(0) + " " + x.faults(1);
    }

    private void faultsByStrikes() {
        check.due("none at the start", faults(Laid.game("nn", TWO)), "0 0");
        check.due("none by a play that fits", faults(Laid.acted(Laid.game("nn", TWO), "p4")), "0 0");
        check.due("of the first", faults(Laid.acted(Laid.game("nn", TWO), "p0")), "1 0");
        check.due("of the second", faults(Laid.acted(Laid.game("nn", TWO), "p4 p2")), "0 1");
        check.due("by the third strike", faults(Laid.acted(Laid.game("nn", TWO), "p0 p2 p1")), "2 1");
        Hintworks known = Laid.acted(Laid.game("nn", TWO), "r11 r01 p4 p1");
        check.due("a strike of a card that was told", faults(known), "0 1");
    }

    private void faultsByDiscards() {
        check.due("known to be played", faults(Laid.acted(Laid.game("nn", TWO), "r11 d1")), "0 1");
        check.due("not known", faults(Laid.acted(Laid.game("nn", TWO), "r12 d1")), "0 0");
        check.due("one of two kinds is not a next one", faults(Laid.acted(Laid.game("nn", TWO), "r12 d0")), "0 0");
        int[][] useless = Laid.hands(Laid.hand(1, 11, 3, 14, 13), Laid.hand(1, 4, 3, 11, 13));
        check.due("known to be useless", faults(Laid.acted(Laid.game("nn", useless, 14, 5), "p0 p3 r11 d1")), "0 0");
        int[][] dark = Laid.hands(Laid.hand(11, 13, 14, 15, 3), Laid.hand(2, 4, 12, 13, 14));
        Hintworks after = Laid.acted(Laid.game("dn", dark), "p0 r03 r12");
        check.due("two kinds, one is a next one", after.kinds(1, 0) + " " + after.isPlayable(1, 0), "2 false");
        check.due("not known ahead of the discard", faults(Laid.acted(after, "d0")), "0 0");
    }

    private void faultsByHints() {
        check.due("of no card touched ahead", faults(Laid.acted(Laid.game("nn", TWO), "r12")), "0 0");
        check.due("of cards touched ahead", faults(Laid.acted(Laid.game("nn", TWO), "r12 r04 r12")), "1 0");
        check.due("of one that was not, and others", faults(Laid.acted(Laid.game("nn", TWO), "r12 r04 s10")), "0 0");
        check.due("of the other player", faults(Laid.acted(Laid.game("nn", TWO), "r12 r04 r15 r04")), "0 1");
        check.due("of new ones by a rank", faults(Laid.acted(Laid.game("nn", TWO), "s11 s01 r11 r01")), "0 0");
        check.due("touched by a suit, by a rank alone", faults(Laid.acted(Laid.game("nn", TWO), "s10 s00 r11 r03")),
                "1 1");
        check.due("of a card drawn since", faults(Laid.acted(Laid.game("nn", TWO, 12), "r12 d2 r12")), "0 0");
    }

    // ---- Hats

    private void hats() {
        said.part("Hats");
        said.test("The hat of a player is the sum of the cards of the hand, as told, modulo 8.", this::hatsOfHands);
        said.test("Who gives the code tells the sum of all other hats modulo 8;", this::codes);
        said.test("each of the others takes the hats that are seen, but for those of the giver, off from this, modulo "
                + "8, and learns the own one.", this::othersLearn);
    }

    private void hatsOfHands() {
        Hintworks x = Laid.game("nn", TWO, 14);
        check.due("31 and 25", x.hat(0) + " " + x.hat(1), "7 1");
        check.due("as the hand changes", Laid.acted(x, "p4").hat(0), (4 + 12 + 3 + 11 + 14) % 8);
        int[][] most = Laid.hands(Laid.hand(45, 44, 44, 43, 43), Laid.hand(1, 1, 1, 2, 3));
        check.due("219 and 8", Laid.game("nnnnn", most).hat(0) + " " + Laid.game("nnnnn", most).hat(1), "3 0");
        check.due("of four cards", Laid.inOrder(4, "nn", 15, 1, 1, 1, 14, 2, 2, 3, 13, 11, 11, 11, 12).hat(0), 54 % 8);
        Hintworks fewer = Laid.acted(Laid.inOrder(2, "n", 1, 1, 2, 1, 3, 2, 4, 3, 5, 4), "p4");
        check.due("with a card fewer", fewer.hat(0), (2 + 3 + 4 + 5) % 8);
    }

    private void codes() {
        Hintworks two = Laid.game("nn", TWO);
        check.due("of two players", two.code(0) + " " + two.code(1), "1 7");
        Hintworks three = Laid.game("nnn", THREE);
        check.due("hats of three", three.hat(0) + " " + three.hat(1) + " " + three.hat(2), "7 1 2");
        check.due("of three players", three.code(0) + " " + three.code(1) + " " + three.code(2), "3 1 0");
        for (int seed = 0; seed < 50; seed++) {
            Hintworks four = new Hintworks();
            four.game(4, 5, 997 * seed);
            four.start();
            int all = four.hat(0) + four.hat(1) + four.hat(2) + four.hat(3);
            for (int giver = 0; giver < 4; giver++) {
                check.due("of four players", four.code(giver), (all - four.hat(giver)) % 8);
            }
        }
    }

    private void othersLearn() {
        for (int seed = 0; seed < 60; seed++) {
            int players = 2 + seed % 3;
            Hintworks x = new Hintworks();
            x.game(players, 5, 811 * seed);
            x.start();
            for (int giver = 0; giver < players; giver++) {
                for (int player = 0; player < players; player++) {
                    if (player != giver) {
                        check.due("what " + player + " learns by " + giver, x.learns(giver, player), x.hat(player));
                    }
                }
            }
        }
    }

    // ---- Open

    private void open() {
        said.part("Open");
        said.test("With all cards open,", this::allOpen);
        said.test("the best score in some turns is the greatest one that the players can come to by playing,",
                this::bestByPlaying);
        said.test("discarding, or giving a clue away for a hint, whatever it tells,", this::bestByOtherActs);
        said.test("from now on.", this::bestFromNow);
    }

    private static String best(Hintworks x) {
        return x.best(0) + " " + x.best(1) + " " + x.best(2);
    }

    private static String best(int[] first, int[] second) {
        return best(Laid.game("nn", Laid.hands(first, second)));
    }

    private void allOpen() {
        check.due("a hand that nothing is known of", best(Laid.hand(3, 4, 13, 14, 1), Laid.hand(3, 4, 13, 14, 11)),
                "0 1 2");
    }

    private void bestByPlaying() {
        int[] none = Laid.hand(3, 4, 13, 14, 15);
        check.due("nothing fits", best(none, Laid.hand(3, 4, 13, 14, 12)), "0 0 0");
        check.due("the first alone", best(Laid.hand(3, 4, 1, 14, 15), Laid.hand(3, 4, 13, 14, 12)), "0 1 1");
        check.due("the second alone", best(none, Laid.hand(3, 4, 13, 14, 1)), "0 0 1");
        check.due("a copy of each", best(Laid.hand(3, 4, 1, 14, 15), Laid.hand(3, 4, 13, 14, 1)), "0 1 1");
        check.due("one behind the other", best(Laid.hand(3, 4, 1, 14, 15), Laid.hand(3, 4, 13, 14, 2)), "0 1 2");
        check.due("not the other way round", best(Laid.hand(3, 4, 2, 14, 15), Laid.hand(3, 4, 13, 14, 1)), "0 0 1");
        check.due("the right one of two", best(Laid.hand(1, 4, 11, 14, 15), Laid.hand(1, 4, 13, 14, 12)), "0 1 2");
        check.due("the left one of two", best(Laid.hand(1, 4, 11, 14, 15), Laid.hand(11, 4, 13, 14, 2)), "0 1 2");
        int[][] down = Laid.hands(Laid.hand(1, 12, 13, 14, 5), Laid.hand(2, 4, 15, 13, 12));
        check.due("a reversed suit", best(Laid.game("rn", down)), "0 1 2");
        int[][] three = Laid.hands(Laid.hand(2, 12, 13, 14, 3), Laid.hand(1, 4, 15, 13, 12),
                Laid.hand(2, 4, 11, 3, 14));
        check.due("of three players, the first two", best(Laid.game("nn", three)), "0 0 1");
        check.due("the last and the first", best(Laid.acted(Laid.game("nn", three), "r12 p0")), "1 2 3");
    }

    private void bestByOtherActs() {
        int[][] hands = Laid.hands(Laid.hand(3, 4, 13, 14, 2), Laid.hand(3, 4, 13, 14, 1));
        check.due("a hint with 8 clues", best(Laid.game("nn", hands)), "0 0 1");
        String four = "r14 r04 r14 r04 r14 r04 r14 ";
        check.due("a hint with one clue", best(Laid.acted(Laid.game("nn", Laid.hands(hands[1], hands[0])), four)),
                "0 0 1");
        check.due("a discard with no clue", best(Laid.acted(Laid.game("nn", hands), four + "r04")), "0 0 1");
        check.due("what a hint would touch is all one", best(Laid.inOrder(2, "uu", 2, 1, 3, 14, 4, 3, 13, 13, 5, 4)),
                "0 0 1");
        check.due("who could play may not need to", best(Laid.hand(3, 4, 13, 14, 11), Laid.hand(3, 4, 13, 14, 11)),
                "0 1 1");
    }

    private void bestFromNow() {
        Hintworks x = Laid.game("nn", TWO);
        check.due("at the start", best(x), "0 1 2");
        check.due("with a score", best(Laid.acted(x, "p4")), "1 2 3");
        check.due("with a strike", best(Laid.acted(x, "p3")), "1 2 3");
        Hintworks strikes = Laid.acted(Laid.game("nn", TWO), "p0 p2 p4");
        check.due("with two strikes", strikes.strikes() + ": " + best(strikes), "2: 1 2 3");
        check.due("over by the third strike", best(Laid.acted(strikes, "p2")), "1 1 1");
        int[][] all = Laid.hands(Laid.hand(2, 1, 3, 4, 5), Laid.hand(1, 1, 2, 3, 4));
        Hintworks last = Laid.game("n", all);
        check.due("two turns left", best(last), "0 1 2");
        check.due("one turn left", best(Laid.acted(last, "p1")), "1 2 2");
        check.due("no turn left", best(Laid.acted(last, "r02")), "1 1 1");
        Hintworks whole = Laid.inOrder(2, "nn", 1, 2, 3, 4, 5, 11, 12, 13, 14, 15);
        Laid.acted(whole, "p4 p4 p4 p4 p4 p4 p4 p4");
        check.due("two cards are left to play", best(whole), "8 9 10");
        check.due("one card is left to play", best(Laid.acted(whole, "p4")), "9 10 10");
        check.due("over as all suits are whole", best(Laid.acted(whole, "p4")), "10 10 10");
    }
}
