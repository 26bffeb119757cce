/** Games whose hands are laid as a test wants them. */
final class Laid {
    private Laid() {
    }

    /**
     * A started game; the kinds of its suits are told by a text, a letter a suit, and the hands newest card
     * first. The cards behind them are drawn next.
     */
    static Hintworks game(String kinds, int[][] hands, int... drawn) {
        Hintworks x = unstarted(kinds, hands, drawn);
        x.start();
        return x;
    }

    static Hintworks unstarted(String kinds, int[][] hands, int... drawn) {
        Hintworks x = new Hintworks();
        x.game(hands.length, kinds.length(), 0);
        for (int suit = 0; suit < kinds.length(); suit++) {
            x.setSuit(suit, kinds.charAt(suit), 0);
        }
        int next = 0;
        int each = hands[0].length;
        for (int round = 0; round < each; round++) {
            for (int[] hand : hands) {
                x.lay(next, hand[each - 1 - round]);
                next++;
            }
        }
        for (int card : drawn) {
            x.lay(next, card);
            next++;
        }
        return x;
    }

    static int[] hand(int... cards) {
        return cards;
    }

    static int[][] hands(int[]... hands) {
        return hands;
    }
}
