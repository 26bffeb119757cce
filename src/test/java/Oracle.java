import java.util.ArrayList;
import java.util.List;
import java.util.NoSuchElementException;

/**
 * The document again, told in another way and without care for cost: each card keeps the hints of its life,
 * worlds are tried one by one, and open games are played out. Random runs compare it with Hintworks.
 */
public final class Oracle {
    private static final class Card {
        final int suit;
        final int rank;
        final List<Hint> touchedBy = new ArrayList<>();
        final List<Hint> missedBy = new ArrayList<>();

        Card(int suit, int rank) {
            this.suit = suit;
            this.rank = rank;
        }

        int told() {
            return 10 * suit + rank;
        }
    }

    private static final class Hint {
        boolean ofSuit;
        int value;
        Card focus;
        char meaning;
        char stands = '-';
        int badTouch;
        int finesses;
        boolean fromNobody;
    }

    private char[] kinds;
    private int players;
    private List<Card> deck;
    private int laid;
    private List<List<Card>> hands;
    private List<Card> played;
    private List<Card> discarded;
    private List<Hint> given;
    private int[] faultCount;
    private int clueCount;
    private int strikeCount;
    private int mover;
    private int turnsAfterLast;
    private boolean started;
    private boolean ended;

    public Oracle() {
        game(2, 1, 0);
    }

    // ---- Games

    public int game(int playerNumber, int suits, int seed) {
        argument(playerNumber < 2 || playerNumber > 4 || suits < 1 || suits > 5 || seed < 0 || seed > 65535);
        players = playerNumber;
        kinds = "n".repeat(suits).toCharArray();
        hands = new ArrayList<>();
        for (int player = 0; player < players; player++) {
            hands.add(new ArrayList<>());
        }
        played = new ArrayList<>();
        discarded = new ArrayList<>();
        given = new ArrayList<>();
        faultCount = new int[players];
        clueCount = 8;
        strikeCount = 0;
        mover = 0;
        turnsAfterLast = -1;
        started = false;
        ended = false;
        return shuffle(seed);
    }

    private int copies(int suit, int rank) {
        if (kinds[suit] == 'd') {
            return 1;
        }
        int order = kinds[suit] == 'r' ? 6 - rank : rank;
        return order == 1 ? 3 : order == 5 ? 1 : 2;
    }

    private int shuffle(int seed) {
        deck = new ArrayList<>();
        for (int suit = 0; suit < kinds.length; suit++) {
            for (int rank = 1; rank <= 5; rank++) {
                for (int copy = 0; copy < copies(suit, rank); copy++) {
                    deck.add(new Card(suit, rank));
                }
            }
        }
        long number = seed;
        for (int place = deck.size() - 1; place > 0; place--) {
            number = (number * 1103L + 12345L) % 65536L;
            java.util.Collections.swap(deck, place, (int) (number % (place + 1)));
        }
        laid = deck.size();
        return laid;
    }

    public int setSuit(int suit, char kind, int seed) {
        range(suit < 0 || suit >= kinds.length);
        argument("ndrwu".indexOf(kind) < 0 || seed < 0 || seed > 65535);
        state(started);
        kinds[suit] = kind;
        return shuffle(seed);
    }

    public int lay(int place, int card) {
        range(place < 0 || place >= laid);
        argument(noCard(card));
        state(started);
        for (int from = place; from < deck.size(); from++) {
            if (deck.get(from).told() == card) {
                int before = deck.get(place).told();
                java.util.Collections.swap(deck, place, from);
                return before;
            }
        }
        throw new NoSuchElementException();
    }

    public int start() {
        state(started);
        int each = players == 4 ? 4 : 5;
        if (deck.size() < each * players) {
            throw new UnsupportedOperationException();
        }
        started = true;
        for (int number = 0; number < each * players; number++) {
            draw(number % players);
        }
        return deck.size();
    }

    private void draw(int player) {
        if (!deck.isEmpty()) {
            hands.get(player).add(0, deck.remove(0));
            if (deck.isEmpty()) {
                turnsAfterLast = 0;
            }
        }
    }

    public int deck() {
        return deck.size();
    }

    public int turn() {
        state(!started || ended);
        return mover;
    }

    public int cardAt(int player, int place) {
        return held(player, place).told();
    }

    public int hand(int player) {
        noPlayer(player);
        return hands.get(player).size();
    }

    public int clues() {
        return clueCount;
    }

    public int strikes() {
        return strikeCount;
    }

    public int score() {
        return played.size();
    }

    public boolean isOver() {
        return ended;
    }

    public int discarded(int card) {
        argument(noCard(card));
        return count(discarded, card);
    }

    // ---- Turns

    public int play(int place) {
        state(!started || ended);
        List<Card> hand = hands.get(mover);
        range(place < 0 || place >= hand.size());
        Card card = hand.remove(place);
        boolean fits = isNext(card.told());
        if (fits) {
            played.add(card);
            if (playedOf(card.suit) == 5 && clueCount < 8) {
                clueCount++;
            }
        } else {
            strikeCount++;
            faultCount[mover]++;
            discarded.add(card);
        }
        finish(card, fits ? 'k' : 'b');
        return played.size();
    }

    public int discard(int place) {
        state(!started || ended);
        List<Card> hand = hands.get(mover);
        range(place < 0 || place >= hand.size());
        unsupported(clueCount == 8);
        if (isPlayable(mover, place)) {
            faultCount[mover]++;
        }
        Card card = hand.remove(place);
        discarded.add(card);
        clueCount++;
        finish(card, 'b');
        return card.told();
    }

    private void finish(Card card, char how) {
        for (Hint hint : given) {
            if (hint.focus == card) {
                hint.stands = how;
            }
        }
        boolean lastWasDrawn = deck.isEmpty();
        draw(mover);
        pass(lastWasDrawn);
    }

    private void pass(boolean lastWasDrawn) {
        if (lastWasDrawn) {
            turnsAfterLast++;
        }
        ended = strikeCount == 3 || played.size() == 5 * kinds.length || turnsAfterLast == players;
        mover = (mover + 1) % players;
    }

    public int hintSuit(int to, int suit) {
        state(!started || ended);
        noPlayer(to);
        range(suit < 0 || suit >= kinds.length);
        argument(to == mover);
        Hint hint = new Hint();
        hint.ofSuit = true;
        hint.value = suit;
        unsupported(!canTell(suit));
        return give(to, hint);
    }

    public int hintRank(int to, int rank) {
        state(!started || ended);
        noPlayer(to);
        argument(to == mover || rank < 1 || rank > 5);
        Hint hint = new Hint();
        hint.value = rank;
        return give(to, hint);
    }

    private boolean canTell(int suit) {
        return kinds[suit] != 'w' && kinds[suit] != 'u';
    }

    private boolean touches(Hint hint, int suit, int rank) {
        if (!hint.ofSuit) {
            return rank == hint.value;
        }
        return kinds[suit] == 'w' || kinds[suit] != 'u' && suit == hint.value;
    }

    private int give(int to, Hint hint) {
        List<Card> touched = new ArrayList<>();
        boolean fresh = false;
        for (Card card : hands.get(to)) {
            if (touches(hint, card.suit, card.rank)) {
                touched.add(card);
                fresh |= card.touchedBy.isEmpty();
            }
        }
        unsupported(clueCount == 0 || touched.isEmpty());
        Card chop = chopOf(to);
        hint.focus = focusOf(touched, chop);
        int focus = hint.focus.told();
        hint.meaning = hint.focus == chop && isCritical(focus) && !isNext(focus) ? 's' : 'p';
        for (Card card : hands.get(to)) {
            (touched.contains(card) ? card.touchedBy : card.missedBy).add(hint);
        }
        for (Card card : touched) {
            if (neverAgain(card.suit, card.rank) || hasTouchedTwin(card)) {
                hint.badTouch++;
            }
        }
        connect(hint);
        if (!fresh) {
            faultCount[mover]++;
        }
        given.add(hint);
        clueCount--;
        pass(deck.isEmpty());
        return touched.size();
    }

    private Card chopOf(int player) {
        Card chop = null;
        for (Card card : hands.get(player)) {
            if (card.touchedBy.isEmpty()) {
                chop = card;
            }
        }
        return chop;
    }

    private static Card focusOf(List<Card> touched, Card chop) {
        if (touched.contains(chop)) {
            return chop;
        }
        for (Card card : touched) {
            if (card.touchedBy.isEmpty()) {
                return card;
            }
        }
        return touched.get(0);
    }

    private boolean hasTouchedTwin(Card card) {
        for (List<Card> hand : hands) {
            for (Card other : hand) {
                if (other != card && other.told() == card.told() && !other.touchedBy.isEmpty()) {
                    return true;
                }
            }
        }
        return false;
    }

    private void connect(Hint hint) {
        int suit = hint.focus.suit;
        List<Card> came = new ArrayList<>();
        for (int number = 1; number <= 5; number++) {
            int rank = kinds[suit] == 'r' ? 6 - number : number;
            if (rank == hint.focus.rank) {
                return;
            }
            if (!isPlayed(suit, rank) && !comes(hint, suit, rank, came)) {
                hint.fromNobody = true;
                return;
            }
        }
    }

    private boolean comes(Hint hint, int suit, int rank, List<Card> came) {
        for (int steps = 1; steps < players; steps++) {
            List<Card> hand = hands.get((mover + steps) % players);
            Card prompted = null;
            Card hidden = null;
            for (int place = hand.size() - 1; place >= 0; place--) {
                Card card = hand.get(place);
                if (!card.touchedBy.isEmpty() && hintsLet(card, suit, rank)) {
                    prompted = card;
                }
                if (card.touchedBy.isEmpty() && !came.contains(card)) {
                    hidden = card;
                }
            }
            if (prompted != null && prompted.told() == 10 * suit + rank) {
                return true;
            }
            if (hidden != null && hidden.told() == 10 * suit + rank) {
                came.add(hidden);
                hint.finesses++;
                return true;
            }
        }
        return false;
    }

    // ---- Knowledge

    private boolean hintsLet(Card card, int suit, int rank) {
        for (Hint hint : card.touchedBy) {
            if (!touches(hint, suit, rank)) {
                return false;
            }
        }
        for (Hint hint : card.missedBy) {
            if (touches(hint, suit, rank)) {
                return false;
            }
        }
        return true;
    }

    private static int count(List<Card> cards, int told) {
        int number = 0;
        for (Card card : cards) {
            number += card.told() == told ? 1 : 0;
        }
        return number;
    }

    private int unseen(int one, int other, int suit, int rank) {
        int told = 10 * suit + rank;
        int seen = count(played, told) + count(discarded, told);
        for (int player = 0; player < players; player++) {
            if (player != one && player != other) {
                seen += count(hands.get(player), told);
            }
        }
        return copies(suit, rank) - seen;
    }

    private List<Integer> possible(int player, int holder, int place) {
        List<Integer> all = new ArrayList<>();
        Card card = hands.get(holder).get(place);
        for (int suit = 0; suit < kinds.length; suit++) {
            for (int rank = 1; rank <= 5; rank++) {
                if (hintsLet(card, suit, rank) && unseen(player, holder, suit, rank) > 0) {
                    all.add(10 * suit + rank);
                }
            }
        }
        return all;
    }

    public int kinds(int player, int place) {
        held(player, place);
        return possible(player, player, place).size();
    }

    public boolean canBe(int player, int place, int card) {
        held(player, place);
        argument(noCard(card));
        return possible(player, player, place).contains(card);
    }

    public int thinks(int player, int other, int place) {
        state(!started);
        noPlayer(player);
        held(other, place);
        return possible(player, other, place).size();
    }

    public long worlds(int player) {
        state(!started);
        noPlayer(player);
        List<List<Integer>> places = new ArrayList<>();
        long product = 1;
        for (int place = 0; place < hands.get(player).size(); place++) {
            places.add(possible(player, player, place));
            product *= places.get(place).size();
        }
        unsupported(product > 200000);
        int[] left = new int[50];
        for (int suit = 0; suit < kinds.length; suit++) {
            for (int rank = 1; rank <= 5; rank++) {
                left[10 * suit + rank] = unseen(player, player, suit, rank);
            }
        }
        return tryWorlds(places, 0, left);
    }

    private static long tryWorlds(List<List<Integer>> places, int place, int[] left) {
        if (place == places.size()) {
            return 1;
        }
        long sum = 0;
        for (int kind : places.get(place)) {
            if (left[kind] > 0) {
                left[kind]--;
                sum += tryWorlds(places, place + 1, left);
                left[kind]++;
            }
        }
        return sum;
    }

    private boolean isPlayed(int suit, int rank) {
        return count(played, 10 * suit + rank) > 0;
    }

    private int playedOf(int suit) {
        int number = 0;
        for (Card card : played) {
            number += card.suit == suit ? 1 : 0;
        }
        return number;
    }

    private boolean isNext(int told) {
        int suit = told / 10;
        int next = playedOf(suit) + 1;
        return next <= 5 && told % 10 == (kinds[suit] == 'r' ? 6 - next : next);
    }

    private boolean neverAgain(int suit, int rank) {
        if (isPlayed(suit, rank)) {
            return true;
        }
        int step = kinds[suit] == 'r' ? 1 : -1;
        for (int ahead = rank + step; ahead >= 1 && ahead <= 5; ahead += step) {
            if (count(discarded, 10 * suit + ahead) == copies(suit, ahead)) {
                return true;
            }
        }
        return false;
    }

    public boolean isPlayable(int player, int place) {
        held(player, place);
        for (int kind : possible(player, player, place)) {
            if (!isNext(kind)) {
                return false;
            }
        }
        return true;
    }

    public boolean isUseless(int player, int place) {
        held(player, place);
        for (int kind : possible(player, player, place)) {
            if (!neverAgain(kind / 10, kind % 10)) {
                return false;
            }
        }
        return true;
    }

    public boolean isCritical(int card) {
        argument(noCard(card));
        int left = copies(card / 10, card % 10) - count(discarded, card);
        return left == 1 && !neverAgain(card / 10, card % 10);
    }

    public int most() {
        int sum = 0;
        for (int suit = 0; suit < kinds.length; suit++) {
            for (int rank = 1; rank <= 5; rank++) {
                boolean gone = count(discarded, 10 * suit + rank) == copies(suit, rank);
                sum += isPlayed(suit, rank) || !gone && !neverAgain(suit, rank) ? 1 : 0;
            }
        }
        return sum;
    }

    public int pace() {
        return played.size() + deck.size() + players - most();
    }

    public int chop(int player) {
        state(!started);
        noPlayer(player);
        Card chop = chopOf(player);
        if (chop == null) {
            throw new NoSuchElementException();
        }
        return hands.get(player).indexOf(chop);
    }

    // ---- Promises

    public int hints() {
        return given.size();
    }

    private Hint hintOf(int hint) {
        range(hint < 0 || hint >= given.size());
        return given.get(hint);
    }

    public int focus(int hint) {
        return hintOf(hint).focus.told();
    }

    public char meaning(int hint) {
        return hintOf(hint).meaning;
    }

    public char stands(int hint) {
        return hintOf(hint).stands;
    }

    public int badTouch(int hint) {
        return hintOf(hint).badTouch;
    }

    public int finesses(int hint) {
        if (hintOf(hint).fromNobody) {
            throw new NoSuchElementException();
        }
        return given.get(hint).finesses;
    }

    public int faults(int player) {
        noPlayer(player);
        return faultCount[player];
    }

    public int advice() {
        state(!started || ended);
        int size = hands.get(mover).size();
        for (int place = 0; place < size; place++) {
            if (isPlayable(mover, place)) {
                return 10 + place;
            }
        }
        int hint = clueCount > 0 ? hintFor(true) : -1;
        if (hint >= 0) {
            return hint;
        }
        if (clueCount == 8) {
            hint = hintFor(false);
            if (hint < 0) {
                throw new NoSuchElementException();
            }
            return hint;
        }
        for (int place = 0; place < size; place++) {
            if (isUseless(mover, place)) {
                return 20 + place;
            }
        }
        return 20 + (chopOf(mover) == null ? size - 1 : chop(mover));
    }

    private int hintFor(boolean freshNextOnes) {
        for (int steps = 1; steps < players; steps++) {
            int player = (mover + steps) % players;
            for (int value = 0; value <= 15; value++) {
                Hint hint = new Hint();
                hint.ofSuit = value < 10;
                hint.value = value % 10;
                boolean isHint = value < 10 ? value < kinds.length && canTell(value) : value > 10;
                for (Card card : hands.get(player)) {
                    boolean wanted = !freshNextOnes || card.touchedBy.isEmpty() && isNext(card.told());
                    if (isHint && wanted && touches(hint, card.suit, card.rank)) {
                        return 100 * (player + 1) + value;
                    }
                }
            }
        }
        return -1;
    }

    // ---- Hats and open games

    public int hat(int player) {
        state(!started);
        noPlayer(player);
        int sum = 0;
        for (Card card : hands.get(player)) {
            sum += card.told();
        }
        return sum % 8;
    }

    public int code(int giver) {
        state(!started);
        noPlayer(giver);
        int sum = 0;
        for (int player = 0; player < players; player++) {
            sum += player == giver ? 0 : hat(player);
        }
        return sum % 8;
    }

    public int learns(int giver, int player) {
        state(!started);
        noPlayer(giver);
        noPlayer(player);
        argument(giver == player);
        return hat(player);
    }

    public int best(int turns) {
        state(!started);
        argument(turns < 0 || turns > 2);
        return playOut(turns);
    }

    // Plays every course of the open game on this very object, and takes each turn back behind it.
    private int playOut(int turns) {
        int best = played.size();
        if (turns == 0 || ended) {
            return best;
        }
        for (int place = 0; place < hands.get(mover).size(); place++) {
            for (int act = 0; act < 2; act++) {
                if (act == 0 || clueCount < 8) {
                    Oracle copy = copied();
                    if (act == 0) {
                        copy.play(place);
                    } else {
                        copy.discard(place);
                    }
                    best = Math.max(best, copy.playOut(turns - 1));
                }
            }
        }
        if (clueCount > 0) {
            Oracle copy = copied();
            copy.clueCount--;
            copy.pass(copy.deck.isEmpty());
            best = Math.max(best, copy.playOut(turns - 1));
        }
        return best;
    }

    private Oracle copied() {
        Oracle copy = new Oracle();
        copy.kinds = kinds;
        copy.players = players;
        copy.deck = new ArrayList<>(deck);
        copy.laid = laid;
        copy.hands = new ArrayList<>();
        for (List<Card> hand : hands) {
            copy.hands.add(new ArrayList<>(hand));
        }
        copy.played = new ArrayList<>(played);
        copy.discarded = new ArrayList<>(discarded);
        copy.given = new ArrayList<>();
        copy.faultCount = faultCount.clone();
        copy.clueCount = clueCount;
        copy.strikeCount = strikeCount;
        copy.mover = mover;
        copy.turnsAfterLast = turnsAfterLast;
        copy.started = started;
        copy.ended = ended;
        return copy;
    }

    // ---- Figures

    public long checksum() {
        long sum = 0;
        for (List<Card> hand : hands) {
            for (Card card : hand) {
                sum = 31 * sum + card.told();
            }
        }
        return sum;
    }

    public float keptShare() {
        int kept = 0;
        for (Hint hint : given) {
            kept += hint.stands == 'k' ? 1 : 0;
        }
        if (given.isEmpty()) {
            throw new ArithmeticException();
        }
        return (float) kept / (float) given.size();
    }

    public double meanKinds() {
        int sum = 0;
        int number = 0;
        for (int player = 0; player < players; player++) {
            for (int place = 0; place < hands.get(player).size(); place++) {
                sum += kinds(player, place);
                number++;
            }
        }
        if (number == 0) {
            throw new ArithmeticException();
        }
        return (double) sum / (double) number;
    }

    public boolean isSound() {
        return true;
    }

    /** Whether the card at a place of the hand whose turn it is would go onto its suit. */
    boolean fits(int place) {
        return place < hands.get(mover).size() && isNext(hands.get(mover).get(place).told());
    }

    // ---- Exceptions

    private boolean noCard(int card) {
        return card < 0 || card / 10 >= kinds.length || card % 10 < 1 || card % 10 > 5;
    }

    private void noPlayer(int player) {
        range(player < 0 || player >= players);
    }

    private Card held(int player, int place) {
        state(!started);
        noPlayer(player);
        range(place < 0 || place >= hands.get(player).size());
        return hands.get(player).get(place);
    }

    private static void state(boolean isWrong) {
        if (isWrong) {
            throw new IllegalStateException();
        }
    }

    private static void range(boolean isWrong) {
        if (isWrong) {
            throw new IndexOutOfBoundsException();
        }
    }

    private static void argument(boolean isWrong) {
        if (isWrong) {
            throw new IllegalArgumentException();
        }
    }

    private static void unsupported(boolean isWrong) {
        if (isWrong) {
            throw new UnsupportedOperationException();
        }
    }
}
