import java.util.ArrayList;
import java.util.Collections;
import java.util.List;

/** Decks as the document tells them, told once more, and how a test sees which cards a deck has. */
final class Decks {
    private Decks() {
    }

    static List<Integer> sorted(String kinds) {
        List<Integer> cards = new ArrayList<>();
        for (int suit = 0; suit < kinds.length(); suit++) {
            for (int rank = 1; rank <= 5; rank++) {
                int copies = (kinds.charAt(suit) == 'r' ? "12223" : "32221").charAt(rank - 1) - '0';
                int number = kinds.charAt(suit) == 'd' ? 1 : copies;
                cards.addAll(Collections.nCopies(number, 10 * suit + rank));
            }
        }
        return cards;
    }

    static List<Integer> shuffled(String kinds, int seed) {
        List<Integer> cards = sorted(kinds);
        long number = seed;
        for (int place = cards.size() - 1; place >= 1; place--) {
            number = Math.floorMod(number * 1103 + 12345, 65536L);
            Collections.swap(cards, place, (int) (number % (place + 1)));
        }
        return cards;
    }

    /** The deck of a game: who lays a card that is there already learns what is there. */
    static void due(Check check, String what, Hintworks x, List<Integer> cards) {
        check.due(what + ", number", x.deck(), cards.size());
        for (int place = 0; place < cards.size(); place++) {
            String found = Check.outcome(laying(x, place, cards.get(place)));
            check.due(what + ", place " + place, found, cards.get(place));
        }
    }

    // As a card is laid to one place behind the other, its copies come one by one, until there is no more.
    static int copies(Hintworks x, int card) {
        int number = 0;
        while (number < 50 && !Check.outcome(laying(x, number, card)).startsWith("throws")) {
            number++;
        }
        return number;
    }

    private static Check.Call laying(Hintworks x, int place, int card) {
        return () -> x.lay(place, card);
    }
}
