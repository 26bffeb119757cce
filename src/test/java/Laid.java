/** Games whose hands are laid as a test wants them. */
final class Laid {
    private Laid() {
    }

    /**
     * A started game; the kinds of its suits are told by a text, a letter a suit, and the hands newest card
     * first. The cards behind them are drawn next.
     */
    static Hintworks game(String kinds, int[][] hands, int... drawn) {
        Hintworks x = unstarted(kinds, hands, drawn);
        x.start();
        return x;
    }

    static Hintworks unstarted(String kinds, int[][] hands, int... drawn) {
        Hintworks x = new Hintworks();
        x.game(hands.length, kinds.length(), 0);
        for (int suit = 0; suit < kinds.length(); suit++) {
            x.setSuit(suit, kinds.charAt(suit), 0);
        }
        int next = 0;
        int each = hands[0].length;
        for (int round = 0; round < each; round++) {
            for (int[] hand : hands) {
                x.lay(next, hand[each - 1 - round]);
                next++;
            }
        }
        for (int card : drawn) {
            x.lay(next, card);
            next++;
        }
        return x;
    }

    /** A game that is not started, whose deck begins with the cards as told. */
    static Hintworks deck(int players, String kinds, int... cards) {
        Hintworks x = new Hintworks();
        x.game(players, kinds.length(), 0);
        for (int suit = 0; suit < kinds.length(); suit++) {
            x.setSuit(suit, kinds.charAt(suit), 0);
        }
        for (int place = 0; place < cards.length; place++) {
            x.lay(place, cards[place]);
        }
        return x;
    }

    /**
     * A started game whose cards go round and round as told: who plays the oldest card of the hand, turn by
     * turn, plays them in this order.
     */
    static Hintworks inOrder(int players, String kinds, int... cards) {
        Hintworks x = deck(players, kinds, cards);
        x.start();
        return x;
    }

    /**
     * A game behind the acts of a text: p or d and a place to play or to discard, s or r, a player and a suit or
     * a rank to hint.
     */
    static Hintworks acted(Hintworks x, String acts) {
        for (String one : acts.split(" ")) {
            int first = one.charAt(1) - '0';
            switch (one.charAt(0)) {
                case 'p' -> x.play(first);
                case 'd' -> x.discard(first);
                case 's' -> x.hintSuit(first, one.charAt(2) - '0');
                default -> x.hintRank(first, one.charAt(2) - '0');
            }
        }
        return x;
    }

    /** Does what an advice tells. */
    static void follow(Hintworks x, int advice) {
        int told = advice % 100;
        if (advice < 20) {
            x.play(advice - 10);
        } else if (advice < 100) {
            x.discard(advice - 20);
        } else if (told < 10) {
            x.hintSuit(advice / 100 - 1, told);
        } else {
            x.hintRank(advice / 100 - 1, told - 10);
        }
    }

    static int[] hand(int... cards) {
        return cards;
    }

    static int[][] hands(int[]... hands) {
        return hands;
    }
}
