import java.util.List;
import java.util.function.Supplier;

/** Games in the states that the document's promises tell apart. */
final class Games {
    static final int[][] TWO = Laid.hands(Laid.hand(4, 12, 3, 11, 1), Laid.hand(2, 1, 15, 5, 2));
    static final int[] ONE_SUIT = {1, 2, 3, 4, 5, 1, 1, 2, 3, 4};
    // With no clue left, it is the turn of the first player.
    static final String ALL_CLUES = "r12 r04 r12 r04 r12 r04 r12 r04";

    private Games() {
    }

    static Hintworks laid(int players, int suits) {
        Hintworks x = new Hintworks();
        x.game(players, suits, 0);
        return x;
    }

    static Hintworks started(int players, int suits) {
        Hintworks x = laid(players, suits);
        x.start();
        return x;
    }

    static Hintworks two() {
        return Laid.game("nn", TWO, 13, 14);
    }

    static Hintworks two(String acts) {
        return Laid.acted(two(), acts);
    }

    static Hintworks laidAgain() {
        Hintworks x = two("r12 p0");
        x.game(2, 2, 0);
        return x;
    }

    // ---- Games that are over, in each way that the document names

    static Hintworks overByStrikes() {
        return two("p0 p2 p1");
    }

    static Hintworks overAsWhole() {
        return Laid.acted(Laid.inOrder(2, "nn", 1, 2, 3, 4, 5, 11, 12, 13, 14, 15), "p4 p4 p4 p4 p4 p4 p4 p4 p4 p4");
    }

    static Hintworks overByCards() {
        return Laid.acted(Laid.inOrder(2, "n", ONE_SUIT), "p4 r01");
    }

    static List<Supplier<Hintworks>> allOver() {
        return List.of(Games::overByStrikes, Games::overAsWhole, Games::overByCards);
    }
}
