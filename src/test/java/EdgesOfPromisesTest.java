import java.util.function.BiFunction;

/** Promises 29 to 36, sentence by sentence. */
public final class EdgesOfPromisesTest {
    private static final String KINDS = "ndrwu";
    // Nothing of these can be played at once.
    private static final int[] LATE = Laid.hand(3, 4, 13, 14, 15);
    private static final int[] LATE_TOO = Laid.hand(3, 4, 13, 14, 5);
    private static final int[] EVEN = Laid.hand(2, 4, 12, 14, 5);

    private final Said said = new Said();
    private final Check check = said.check();

    private EdgesOfPromisesTest() throws java.io.IOException {
    }

    public static void main(String[] args) throws java.io.IOException {
        EdgesOfPromisesTest all = new EdgesOfPromisesTest();
        all.hints();
        all.focus();
        all.meaning();
        all.stands();
        all.badTouch();
        all.finesses();
        all.faults();
        all.advice();
        all.said.end();
    }

    private void ofHints(BiFunction<Hintworks, Integer, Object> call) {
        said.numbers("- `hint`: the number of the hint", () -> Games.two("r12 r04 r12"), 0, 2, Check.RANGE, call);
        said.test("Throws `IndexOutOfBoundsException` if there is no such hint", () -> {
            check.refused(Check.RANGE, Hintworks::new, "not started", x -> call.apply(x, 0));
            check.refused(Check.RANGE, Games::two, "no hint", x -> call.apply(x, 0));
            check.refused(Check.RANGE, Games::two, "no hint, below", x -> call.apply(x, -1));
            check.taken(() -> Games.two("r12"), "one hint", x -> call.apply(x, 0));
            check.refused(Check.RANGE, () -> Games.two("r12"), "a second of one", x -> call.apply(x, 1));
            check.refused(Check.RANGE, () -> Games.two("r12 p0 p0"), "as many as acts", x -> call.apply(x, 1));
            check.taken(() -> Games.two("r12 p0 p0 p0"), "as the game is over", x -> call.apply(x, 0));
            check.refused(Check.RANGE, Games::laidAgain, "a hint of the game before", x -> call.apply(x, 0));
        });
    }

    // ---- Promise 29

    private void hints() {
        said.part("Promise 29: hints");
        said.test("Returns how many hints were given.", () -> {
            check.due("not started", new Hintworks().hints(), 0);
            check.due("none", Games.two().hints(), 0);
            check.due("by a suit, by a rank", Games.two("s10 r04").hints(), 2);
            check.due("no play, no discard", Games.two("s10 p4 p4 d0 r11").hints(), 2);
            Hintworks x = Games.two("r12");
            check.due("a refused one", Check.outcome(() -> x.hintRank(0, 5)), "throws " + Check.UNSUPPORTED.getName());
            check.due("not given", x.hints(), 1);
            check.due("of the game before", Games.laidAgain().hints(), 0);
        });
        said.test("Returns the number of hints.", this::asManyAsCanBe);
    }

    // All clues, and one for each card of the deck as it is discarded.
    private void asManyAsCanBe() {
        Hintworks x = Games.started(2, 5);
        int given = 0;
        for (int turn = 0; turn < 8 + 2 * 40; turn++) {
            int other = 1 - turn % 2;
            if (turn < 8 || other == 0) {
                x.hintRank(other, x.cardAt(other, 0) % 10);
                given++;
            } else {
                x.discard(0);
            }
        }
        check.due("all of them", x.hints() + " " + given + " " + x.deck(), "48 48 0");
        check.due("the last one", Check.outcome(() -> x.focus(47)), x.cardAt(0, 0));
        check.due("one behind it", Check.outcome(() -> x.focus(48)), "throws " + Check.RANGE.getName());
    }

    // ---- Promises 30 to 32

    private void focus() {
        said.part("Promise 30: focus");
        said.test("Returns the card that is the focus of a hint.", () -> {
            check.due("the chop", Games.two("s10").focus(0), 2);
            check.due("not the chop", Games.two("r11").focus(0), 1);
        });
        ofHints(Hintworks::focus);
        said.test("Returns the card.", () -> {
            check.due("each of some", Games.two("r11 r04 s11").focus(0) + " " + Games.two("r11 r04 s11").focus(1) + " "
                    + Games.two("r11 r04 s11").focus(2), "1 4 15");
            check.due("as it was, played", Games.two("r11 p1").focus(0), 1);
            check.due("as it was, discarded", Games.two("s11 d2").focus(0), 15);
            check.due("as it was, moved on", Games.two("r11 p4").focus(0), 1);
        });
    }

    private void meaning() {
        said.part("Promise 31: meaning");
        int[][] five = Laid.hands(Laid.hand(4, 12, 3, 11, 1), Laid.hand(2, 15, 1, 13, 5));
        said.test("Returns what a hint is.", () -> {
            check.due("a 5 on the chop", Laid.acted(Laid.game("nn", five), "r15").meaning(0), 's');
            check.due("another one", Laid.acted(Laid.game("nn", five), "r13").meaning(0), 'p');
        });
        ofHints(Hintworks::meaning);
        said.test("Returns 's' a save, 'p' a promise,", () -> {
            Hintworks x = Laid.acted(Laid.game("nn", five), "r15 r04 r13");
            check.due("each of some", "" + x.meaning(0) + x.meaning(1) + x.meaning(2), "spp");
        });
        said.test("by the cards as it was given.", () -> {
            int[][] fours = Laid.hands(Laid.hand(4, 12, 3, 11, 1), Laid.hand(2, 15, 1, 13, 4));
            Hintworks promise = Laid.acted(Laid.game("nn", fours), "r14");
            check.due("a promise", promise.meaning(0), 'p');
            check.due("its card is critical then", Laid.acted(promise, "r04 p0").isCritical(4), true);
            check.due("still a promise", promise.meaning(0), 'p');
            int[][] twos = Laid.hands(Laid.hand(4, 12, 3, 5, 1), Laid.hand(13, 15, 14, 11, 2));
            Hintworks save = Laid.acted(Laid.game("ddn", twos), "r12");
            check.due("a save", save.meaning(0), 's');
            check.due("its card is a next one then", Laid.acted(save, "r04 p4").best(1), 2);
            check.due("still a save", save.meaning(0), 's');
        });
    }

    private void stands() {
        said.part("Promise 32: stands");
        said.test("Returns how a hint stands.", () -> {
            Hintworks x = Games.two("r11");
            check.due("given", x.stands(0), '-');
            check.due("played", Laid.acted(x, "p1").stands(0), 'k');
        });
        ofHints(Hintworks::stands);
        said.test("Returns '-' open, 'k' kept, 'b' broken.", () -> {
            Hintworks x = Games.two("r11 r04 s11 r03 p2 p2");
            check.due("each of some", "" + x.stands(0) + x.stands(1) + x.stands(2) + x.stands(3), "--bb");
            check.due("open at the end", Games.two("r12 p0 p0 p0").stands(0), '-');
            Hintworks first = Games.two("r11 p1 r12 p4");
            check.due("kept as its card is played", "" + first.stands(0) + first.stands(1), "kk");
            Hintworks last = Games.two("p0 p2 r12 p4");
            check.due("broken by the third strike", last.stands(0), 'b');
        });
    }

    // ---- Promise 33

    private static int bad(int[][] hands, String acts) {
        Hintworks x = Laid.acted(Laid.game("nn", hands), acts);
        return x.badTouch(x.hints() - 1);
    }

    private static int bad(String acts, int... held) {
        return bad(Laid.hands(Laid.hand(4, 12, 3, 11, 1), held), acts);
    }

    private void badTouch() {
        said.part("Promise 33: badTouch");
        said.test("Returns how many cards a hint touched that could not be played any more,", () -> {
            check.due("played", bad("p4 r04 r11", 2, 1, 15, 14, 13), 1);
            check.due("not yet played", bad("r11", 2, 1, 15, 14, 13), 0);
            check.due("of two that it touched, one", bad("p4 r04 s10", 2, 1, 15, 14, 13), 1);
            int[][] dark = Laid.hands(Laid.hand(11, 12, 13, 2, 1), Laid.hand(3, 11, 15, 12, 5));
            Hintworks lost = Laid.acted(Laid.game("dn", dark), "p3 r01 r15");
            check.due("behind a lost card", lost.badTouch(1), 1);
            check.due("ahead of a lost card", lost.badTouch(0), 0);
            check.due("of another suit", Laid.acted(Laid.game("dn", dark), "p3 r03 s11").badTouch(1), 0);
        });
        said.test("or of which another copy in some hand was touched ahead,", () -> {
            int[] held = {2, 1, 15, 5, 12};
            check.due("none", bad("r11", held), 0);
            check.due("in the hand of the giver", bad("r15 r01 r11", held), 1);
            int[][] three = Laid.hands(Laid.hand(4, 13, 3, 11, 15), Laid.hand(2, 1, 14, 5, 12),
                    Laid.hand(4, 3, 1, 14, 13));
            check.due("in a third hand", bad(three, "r11 r04 r04 r21"), 1);
            check.due("of the second suit", bad("r15 r01 r11", 2, 11, 15, 5, 12), 1);
            int[][] other = Laid.hands(Laid.hand(4, 12, 3, 14, 1), held);
            check.due("another copy is not touched", bad(other, "r15 r02 r11"), 0);
        });
        said.test("or by it, too.", () -> {
            check.due("both of a kind", bad("r12", 2, 1, 15, 5, 2), 2);
            check.due("three of a kind", bad(Laid.hands(LATE, Laid.hand(1, 1, 1, 2, 5)), "r11"), 3);
            check.due("two kinds", bad(Laid.hands(Laid.hand(4, 3, 11, 14, 13), Laid.hand(1, 1, 2, 2, 5)), "s10"), 4);
            check.due("of one rank alone", bad("r12", 2, 1, 15, 5, 12), 0);
            check.due("a copy that it does not touch", bad(Laid.hands(LATE, Laid.hand(4, 5, 2, 1, 12)), "r14"), 0);
        });
        ofHints(Hintworks::badTouch);
        said.test("Returns the number of cards, as it was given.", () -> {
            Hintworks x = Games.two("r12");
            check.due("two", x.badTouch(0), 2);
            check.due("one of them is gone", Laid.acted(x, "d4").badTouch(0), 2);
            Hintworks one = Games.two("r11");
            check.due("none", one.badTouch(0), 0);
            check.due("its copy is touched then", Laid.acted(one, "r01").badTouch(0) + " " + one.badTouch(1), "0 1");
            check.due("it can't be played then", Laid.acted(one, "p4").badTouch(0), 0);
            check.due("touched ahead and by it", bad("r12 r02 s10", 2, 2, 15, 5, 12), 2);
            check.due("useless and a copy count once", bad("p4 r04 r11", 1, 1, 15, 14, 13), 2);
        });
    }

    // ---- Promise 34

    private void finesses() {
        said.part("Promise 34: finesses");
        int[] giver = Laid.hand(15, 14, 14, 13, 13);
        said.test("Returns by how many finesses a hint connects.", () -> {
            int[] held = {1, 2, 3, 4, 5};
            check.due("none", Laid.acted(Laid.game("nn", Laid.hands(giver, held)), "r11").finesses(0), 0);
            check.due("one", Laid.acted(Laid.game("nn", Laid.hands(giver, held)), "r12").finesses(0), 1);
            check.due("four", Laid.acted(Laid.game("nn", Laid.hands(giver, held)), "r15").finesses(0), 4);
        });
        ofHints(Hintworks::finesses);
        said.test("Returns the number, as it was given;", () -> {
            int[][] hands = Laid.hands(giver, Laid.hand(1, 3, 4, 11, 2));
            Hintworks x = Laid.acted(Laid.game("nn", hands), "r12");
            check.due("one", x.finesses(0), 1);
            check.due("its card is played", Laid.acted(x, "p0").finesses(0), 1);
            Hintworks y = Laid.acted(Laid.game("nn", hands), "r12 d0 r13");
            check.due("its card is discarded", y.finesses(0), 1);
        });
        said.test("prompts aside.", () -> {
            int[][] hands = Laid.hands(giver, Laid.hand(2, 1, 12, 11, 3));
            Hintworks x = Laid.acted(Laid.game("nn", hands), "r11 r05 r13");
            check.due("a prompt, then a finesse", x.finesses(2), 1);
            Hintworks y = Laid.acted(Laid.game("nn", hands), "r11 r05 r12 r05 r13");
            check.due("two prompts", y.finesses(4), 0);
        });
        said.test("Throws `NoSuchElementException` if a card ahead of it comes from nobody", () -> {
            check.refused(Check.ELEMENT, () -> Laid.acted(Laid.game("nn", Laid.hands(giver, Laid.hand(3, 1, 4, 11, 2))),
                    "r12"), "the first one", x -> x.finesses(0));
            check.refused(Check.ELEMENT, () -> Laid.acted(Laid.game("nn", Laid.hands(giver, Laid.hand(1, 11, 4, 5, 3))),
                    "r13"), "the last one", x -> x.finesses(0));
            check.refused(Check.ELEMENT, () -> Laid.acted(Laid.game("nn", Laid.hands(giver, Laid.hand(11, 2, 4, 5, 3))),
                    "r13"), "all of them", x -> x.finesses(0));
            Hintworks other = Laid.acted(Laid.game("nn", Laid.hands(giver, Laid.hand(3, 1, 4, 11, 2))), "r12 p1");
            check.due("as it was given, its card played then", Check.outcome(() -> other.finesses(0)),
                    "throws " + Check.ELEMENT.getName());
        });
    }

    // ---- Promise 35

    private void faults() {
        said.part("Promise 35: faults");
        said.test("Returns the faults of a player.", () -> {
            Hintworks x = Games.two("p0 p4");
            check.due("a strike each", x.faults(0) + " " + x.faults(1), "1 1");
        });
        said.playersOnly("- `player`: the player, from 0", Hintworks::faults);
        said.test("Returns the number of faults.", () -> {
            check.due("none ahead of the start", new Hintworks().faults(0) + new Hintworks().faults(1), 0);
            Hintworks x = Games.two("r11 r04 r11 d1");
            check.due("a hint of nothing new, a discard of a next one", x.faults(0) + " " + x.faults(1), "1 1");
            check.due("a strike", Laid.acted(x, "p0").faults(0), 2);
            check.due("another hint of nothing new", Laid.acted(x, "r03 r12 d0 r12").faults(0), 3);
            Hintworks again = Games.laidAgain();
            check.due("none of the game before", again.faults(0) + " " + again.faults(1), "0 0");
            Hintworks three = Games.two("p0 p2 p1");
            check.due("as the game is over", three.faults(0) + " " + three.faults(1), "2 1");
        });
        said.test("Throws `IndexOutOfBoundsException` if there is no such player", () -> {
            check.taken(() -> Games.laid(4, 1), "the last of four, not started", x -> x.faults(3));
            check.refused(Check.RANGE, () -> Games.laid(4, 1), "a fifth, not started", x -> x.faults(4));
            check.refused(Check.RANGE, Hintworks::new, "a third of two, not started", x -> x.faults(2));
            check.refused(Check.RANGE, Hintworks::new, "below, not started", x -> x.faults(-1));
        });
    }

    // ---- Promise 36

    private static String advice(String kinds, int[][] hands, String acts, int... drawn) {
        Hintworks x = Laid.game(kinds, hands, drawn);
        return Check.outcome(acts.isEmpty() ? x::advice : Laid.acted(x, acts)::advice);
    }

    private void advice() {
        said.part("Promise 36: advice");
        said.test("Returns what a player who goes by knowledge alone would do in this turn:", this::byKnowledgeAlone);
        said.test("plays the newest card that is known to be played;", this::advisedPlays);
        said.test("otherwise, with a clue, gives the first hint,", this::advisedWithAClue);
        said.test("by players behind,", this::advisedByPlayers);
        said.test("suits, then ranks,", this::advisedBySuits);
        said.test("that touches a next one not touched yet;", this::advisedNextOnes);
        said.test("otherwise, with fewer than 8 clues, discards the newest card known to be useless,",
                this::advisedUseless);
        said.test("or the chop,", this::advisedChop);
        said.test("or the oldest card;", this::advisedOldest);
        said.test("otherwise gives the first hint that touches a card.", this::advisedAnyHint);
        said.test("Returns 10 plus the place to play,", () -> {
            check.due("the newest", advice("nn", Laid.hands(LATE, Laid.hand(1, 2, 5, 12, 13)), "r11"), 10);
            check.due("the oldest", advice("nn", Laid.hands(LATE, Laid.hand(2, 5, 12, 13, 1)), "r11"), 14);
        });
        said.test("20 plus the place to discard,", () -> {
            check.due("the oldest", advice("nn", Laid.hands(LATE, LATE_TOO), "r13 r04"), 24);
            check.due("the newest", advice("nn", Laid.hands(Laid.hand(4, 13, 3, 13, 3), EVEN), "r14 r03"), 20);
        });
        said.test("or 100 times 1 more than the player, plus the suit,", () -> {
            int[][] suits = Laid.hands(Laid.hand(2, 12, 22, 32, 42), Laid.hand(3, 13, 23, 33, 41));
            check.due("the last suit to the second", advice("nnnnn", suits, ""), 204);
            int[][] first = Laid.hands(Laid.hand(3, 13, 23, 33, 1), Laid.hand(2, 12, 22, 32, 42));
            check.due("the first suit to the first", advice("nnnnn", first, "r12"), 100);
        });
        said.test("or 10 plus the rank, to hint.", () -> {
            int[][] ranks = Laid.hands(Laid.hand(2, 3, 4, 2, 3), Laid.hand(5, 15, 25, 35, 45));
            check.due("the last rank to the second", advice("uuuuu", ranks, ""), 215);
            int[][] first = Laid.hands(Laid.hand(3, 13, 23, 33, 1), Laid.hand(2, 12, 22, 32, 42));
            check.due("the first rank to the first", advice("uuuuu", first, "r12"), 111);
        });
        said.turnsOnly("Throws `IllegalStateException` if the game was not started, or is over", Hintworks::advice);
        said.test("Throws `NoSuchElementException` if there is nothing so", this::alwaysAnAdvice);
    }

    // The hands of who is advised differ, what is known of them does not.
    private void byKnowledgeAlone() {
        int[] other = Laid.hand(2, 3, 13, 15, 1);
        check.due("cards that fit", advice("nn", Laid.hands(Laid.hand(1, 11, 1, 11, 12), other), ""), 200);
        check.due("cards that do not", advice("nn", Laid.hands(Laid.hand(4, 4, 5, 14, 14), other), ""), 200);
        int[] fit = Laid.hand(1, 11, 1, 11, 5);
        check.due("cards that fit, nothing to hint", advice("nn", Laid.hands(fit, LATE), "r13 r05"), 23);
        int[] not = Laid.hand(14, 12, 4, 12, 5);
        check.due("cards that do not, nothing to hint", advice("nn", Laid.hands(not, LATE), "r13 r05"), 23);
    }

    private void advisedPlays() {
        int[] held = Laid.hand(2, 1, 12, 11, 5);
        check.due("the newest of two", advice("nn", Laid.hands(LATE, held), "r11"), 11);
        check.due("ahead of a hint", advice("nn", Laid.hands(Laid.hand(3, 4, 13, 14, 1), held), "r11"), 11);
        String eight = "r13 r01 r13 r01 r13 r01 r13 r01";
        check.due("with no clue", advice("nn", Laid.hands(held, LATE), eight), 11);
        check.due("not as one of two kinds fits", advice("nn", Laid.hands(Laid.hand(3, 4, 13, 14, 1),
                Laid.hand(2, 12, 11, 15, 5)), "r11 r03 p4", 14), 24);
        check.due("not as no kind fits", advice("nn", Laid.hands(LATE, Laid.hand(2, 1, 11, 5, 12)), "r12"), 23);
    }

    private void advisedWithAClue() {
        int[] first = Laid.hand(3, 4, 13, 14, 1);
        String six = "r13 r03 r13 r03 r13 r03";
        check.due("with 8", advice("nn", Laid.hands(LATE, first), ""), 200);
        check.due("with two", advice("nn", Laid.hands(LATE, first), six), 200);
        check.due("with one", advice("nn", Laid.hands(first, LATE), six + " r13"), 100);
        check.due("with none", advice("nn", Laid.hands(LATE, first), six + " r13 r03"), 24);
        check.due("with one again", advice("nn", Laid.hands(first, LATE), six + " r13 r03 d0"), 100);
    }

    private static String ofFour(int[] second, int[] third, int[] fourth) {
        return advice("nnn", Laid.hands(Laid.hand(2, 12, 22, 5), second, third, fourth), "");
    }

    private static String ofThird(int[] first, int[] second, int[] third, int[] fourth) {
        return advice("nnn", Laid.hands(first, second, third, fourth), "r34 r34");
    }

    private void advisedByPlayers() {
        int[] none = Laid.hand(3, 4, 13, 14);
        int[] one = Laid.hand(3, 4, 13, 1);
        int[] eleven = Laid.hand(3, 4, 13, 11);
        int[] twentyOne = Laid.hand(23, 24, 23, 21);
        check.due("the first one behind", ofFour(one, eleven, twentyOne), 200);
        check.due("the second one behind", ofFour(none, eleven, twentyOne), 301);
        check.due("the last one behind", ofFour(none, none, twentyOne), 402);
        int[] first = Laid.hand(2, 12, 22, 1);
        int[] last = Laid.hand(23, 24, 23, 24);
        check.due("of the third, the fourth", ofThird(first, eleven, none, twentyOne), 402);
        check.due("then the first", ofThird(first, eleven, none, last), 100);
        check.due("then the second", ofThird(Laid.hand(2, 12, 22, 5), eleven, none, last), 201);
        check.due("not oneself", ofThird(Laid.hand(2, 12, 22, 5), none, one, last), 23);
        int[][] three = Laid.hands(Laid.hand(2, 12, 22, 5, 15), Laid.hand(3, 4, 13, 14, 1),
                Laid.hand(3, 4, 13, 14, 11));
        check.due("a rank to the first ahead of a suit to the second", advice("unn", three, ""), 211);
    }

    private void advisedBySuits() {
        check.due("the first suit", advice("nn", Laid.hands(LATE, Laid.hand(11, 4, 13, 3, 1)), ""), 200);
        check.due("the second suit", advice("nn", Laid.hands(LATE, Laid.hand(11, 4, 13, 3, 2)), ""), 201);
        check.due("a suit ahead of a rank", advice("nn", Laid.hands(LATE, Laid.hand(3, 4, 13, 14, 11)), ""), 201);
        int[] third = Laid.hand(3, 1, 4, 13, 14);
        check.due("not a suit of all hints", advice("wn", Laid.hands(Laid.hand(3, 4, 5, 14, 13), third), ""), 201);
        check.due("not a suit of no hint", advice("un", Laid.hands(Laid.hand(3, 4, 5, 14, 13), third), ""), 211);
        int[][] ranks = Laid.hands(Laid.hand(2, 11, 3, 4, 1), LATE);
        check.due("the first rank", advice("uu", ranks, "p4", 13), 111);
        int[][] second = Laid.hands(Laid.hand(2, 12, 3, 4, 1), LATE);
        check.due("the second rank", advice("uu", second, "p4", 13), 112);
    }

    private void advisedNextOnes() {
        int[] eleven = Laid.hand(3, 4, 13, 14, 11);
        check.due("not a hint of others alone", advice("nn", Laid.hands(LATE, eleven), ""), 201);
        int[] one = Laid.hand(3, 4, 13, 14, 1);
        check.due("touched already", advice("nn", Laid.hands(LATE, one), "r11 r03"), 24);
        check.due("a copy of it is not", advice("nn", Laid.hands(LATE, one), "r11 d0", 1), 200);
        check.due("not the oldest alone", advice("nn", Laid.hands(LATE, Laid.hand(11, 4, 13, 14, 3)), ""), 201);
        int[][] twelve = Laid.hands(Laid.hand(3, 4, 13, 14, 11), Laid.hand(3, 4, 13, 14, 12));
        check.due("not a next one yet", advice("nn", twelve, ""), 200);
        check.due("a next one then", advice("nn", twelve, "p4 r03"), 201);
    }

    private static String useless(String more, int... held) {
        int[][] hands = Laid.hands(Laid.hand(3, 4, 13, 11, 1), held);
        return advice("nn", hands, "p4 r03 p4 r03 r11" + more, 14, 14, 15, 5, 1, 11);
    }

    private void advisedUseless() {
        check.due("the newest of two", useless("", 1, 13, 11, 3, 4), 20);
        check.due("the second one of them", useless("", 3, 1, 13, 11, 4), 21);
        check.due("one alone, the oldest", useless("", 3, 13, 2, 4, 11), 24);
        check.due("with 7 clues", useless(" d4 d0", 1, 13, 11, 3, 4), 21);
        check.due("not with 8", useless(" d4 d0 d4 p1", 1, 13, 11, 3, 4), 100);
    }

    private void advisedChop() {
        check.due("the oldest", advice("nn", Laid.hands(LATE, LATE_TOO), "r13 r03"), 24);
        check.due("the oldest is touched", advice("nn", Laid.hands(LATE, LATE_TOO), "r14 r05"), 23);
        check.due("all others are touched", advice("nn", Laid.hands(Laid.hand(4, 13, 3, 13, 3), EVEN), "r14 r03"),
                20);
        check.due("with no clue", advice("nn", Laid.hands(LATE, LATE_TOO), "r13 r03 r13 r03 r13 r03 r13 r03"), 24);
    }

    private void advisedOldest() {
        int[] all = Laid.hand(4, 13, 3, 13, 3);
        check.due("all are touched", advice("nn", Laid.hands(all, EVEN), "r14 r03 r14 r04"), 24);
        int[][] four = Laid.hands(Laid.hand(3, 13, 3, 13), Laid.hand(12, 12, 14, 14), Laid.hand(2, 2, 4, 4),
                Laid.hand(5, 15, 25, 24));
        check.due("all of four", advice("nnn", four, "r14 r34 r34 r03"), 23);
        int[][] hands = Laid.hands(Laid.hand(3, 4, 13, 11, 1), Laid.hand(4, 14, 11, 5, 15));
        check.due("not as one is known to be useless", advice("nn", hands, "p4 r03 p4 r03 s10 r03 s11 r03 r11", 3, 13),
                22);
    }

    private void advisedAnyHint() {
        check.due("of the first suit", advice("nn", Laid.hands(LATE, LATE_TOO), ""), 200);
        int[][] second = Laid.hands(Laid.hand(3, 4, 5, 14, 13), Laid.hand(13, 14, 12, 12, 15));
        check.due("of the second suit", advice("nn", second, ""), 201);
        int[][] low = Laid.hands(Laid.hand(12, 12, 5, 14, 13), Laid.hand(2, 2, 3, 3, 4));
        check.due("of a rank, as no hint touches the suit", advice("un", low, ""), 212);
        check.due("of another suit, as all hints touch it", advice("wn", low, ""), 201);
        check.due("of a rank, as no suit is told", advice("wu", low, ""), 212);
        int[] five = Laid.hand(5, 15, 25, 35, 45);
        check.due("of the last rank", advice("uuuuu", Laid.hands(Laid.hand(3, 4, 13, 14, 12), five), ""), 215);
        check.due("to the first", advice("nn", Laid.hands(LATE, LATE_TOO), "p0", 12), 100);
    }

    // There always is an act: all others have cards to hint with all clues, the own ones can be discarded with fewer.
    private void alwaysAnAdvice() {
        for (int seed = 0; seed < 300; seed++) {
            Hintworks x = new Hintworks();
            int suits = 2 + seed / 3 % 4;
            x.game(2 + seed % 3, suits, 211 * seed);
            for (int suit = 0; suit < suits; suit++) {
                char kind = KINDS.charAt((seed >> suit) % 5);
                x.setSuit(suit, kind == 'd' && suits < 4 ? 'n' : kind, 13 * seed + suit);
            }
            x.start();
            for (int turn = 0; turn < 100 && !x.isOver(); turn++) {
                String advice = Check.outcome(x::advice);
                check.due("an advice, seed " + seed, advice.startsWith("throws"), false);
                Laid.follow(x, Integer.parseInt(advice));
            }
        }
    }
}
