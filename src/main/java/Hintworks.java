import java.util.NoSuchElementException;

/**
 * Games of hints: ../shared/DOC.md says what each call answers.
 *
 * A kind of cards is held as the number 5 * suit + rank - 1, a set of kinds as bits of an int, and a card
 * as its id, its place in the deck, so that the copies of a kind stay apart.
 */
public final class Hintworks {
    private static final int RANKS = 5;
    private static final int MAX_SUITS = 5;
    private static final int MIN_PLAYERS = 2;
    private static final int MAX_PLAYERS = 4;
    private static final int MAX_HAND = 5;
    private static final int MAX_CLUES = 8;
    private static final int MAX_STRIKES = 3;
    private static final int MAX_TURNS = 2;
    private static final int HATS = 8;
    private static final int SEEDS = 65536;
    private static final int MAX_WORLDS = 200000;
    private static final int KINDS = 25;
    private static final int ALL_KINDS = (1 << KINDS) - 1;
    private static final int MAX_CARDS = 50;
    // Each clue that comes back takes a card out of a hand.
    private static final int MAX_HINTS = MAX_CLUES + MAX_CARDS;
    private static final int NONE = -1;

    private final Suits rules = new Suits();
    private final Deck pile = new Deck(rules);
    private final Board board = new Board(rules);
    private final Hands hands = new Hands();
    private final Knowledge knowledge = new Knowledge(rules, pile, board, hands);
    private final HintLog log = new HintLog(rules, pile, board, hands);
    private final int[] faultCounts = new int[MAX_PLAYERS];
    private int playerCount;
    private int mover;
    private int lastTurns;
    private boolean started;
    private boolean over;

    public Hintworks() {
        layGame(MIN_PLAYERS, 1, 0);
    }

    // ---- Games

    public int game(int players, int suits, int seed) throws IllegalArgumentException {
        boolean fits = players >= MIN_PLAYERS && players <= MAX_PLAYERS && suits >= 1 && suits <= MAX_SUITS;
        if (!fits || !isSeed(seed)) {
            throw new IllegalArgumentException("a number is out of range");
        }
        layGame(players, suits, seed);
        return pile.size();
    }

    public int setSuit(int suit, char kind, int seed)
            throws IndexOutOfBoundsException, IllegalArgumentException, IllegalStateException {
        requireSuit(suit);
        if (!isStyle(kind) || !isSeed(seed)) {
            throw new IllegalArgumentException("no such kind or seed");
        }
        requireUnstarted();
        rules.setStyle(suit, kind);
        pile.shuffle(seed);
        return pile.size();
    }

    public int lay(int place, int card)
            throws IndexOutOfBoundsException, IllegalArgumentException, IllegalStateException, NoSuchElementException {
        if (place < 0 || place >= pile.size()) {
            throw new IndexOutOfBoundsException("no such place");
        }
        int kind = kindOfCard(card);
        requireUnstarted();
        int from = pile.find(kind, place);
        if (from == NONE) {
            throw new NoSuchElementException("no such card from there on");
        }
        int before = pile.kindOf(place);
        pile.swap(place, from);
        return told(before);
    }

    public int start() throws IllegalStateException, UnsupportedOperationException {
        requireUnstarted();
        int each = playerCount == MAX_PLAYERS ? MAX_HAND - 1 : MAX_HAND;
        if (each * playerCount > pile.size()) {
            throw new UnsupportedOperationException("too few cards");
        }
        for (int round = 0; round < each; round++) {
            for (int player = 0; player < playerCount; player++) {
                drawFor(player);
            }
        }
        started = true;
        if (pile.left() == 0) {
            lastTurns = playerCount;
        }
        return pile.left();
    }

    public int deck() {
        return pile.left();
    }

    public int turn() throws IllegalStateException {
        requireRunning();
        return mover;
    }

    public int cardAt(int player, int place) throws IllegalStateException, IndexOutOfBoundsException {
        requirePlace(player, place);
        return told(kindAt(player, place));
    }

    public int hand(int player) throws IndexOutOfBoundsException {
        requirePlayer(player);
        return hands.sizeOf(player);
    }

    public int clues() {
        return board.clueCount();
    }

    public int strikes() {
        return board.strikeCount();
    }

    public int score() {
        return board.points();
    }

    public boolean isOver() {
        return over;
    }

    public int discarded(int card) throws IllegalArgumentException {
        return board.goneOf(kindOfCard(card));
    }

    // ---- Turns

    public int play(int place) throws IllegalStateException, IndexOutOfBoundsException {
        requireRunning();
        requireOwnPlace(place);
        int id = hands.idAt(mover, place);
        boolean fits = board.playCard(pile.kindOf(id));
        if (!fits) {
            addFault(mover);
        }
        finishCard(place, fits);
        return board.points();
    }

    public int discard(int place)
            throws IllegalStateException, IndexOutOfBoundsException, UnsupportedOperationException {
        requireRunning();
        requireOwnPlace(place);
        if (board.clueCount() >= MAX_CLUES) {
            throw new UnsupportedOperationException("all clues are there");
        }
        if (isKnownPlayable(mover, place)) {
            addFault(mover);
        }
        int kind = kindAt(mover, place);
        board.discardCard(kind);
        board.gainClue();
        finishCard(place, false);
        return told(kind);
    }

    public int hintSuit(int to, int suit)
            throws IllegalStateException, IndexOutOfBoundsException, IllegalArgumentException,
            UnsupportedOperationException {
        requireRunning();
        requirePlayer(to);
        requireSuit(suit);
        if (to == mover) {
            throw new IllegalArgumentException("the own hand");
        }
        if (!rules.canBeTold(suit)) {
            throw new UnsupportedOperationException("no hint tells this suit");
        }
        return giveHint(to, rules.touchedBySuit(suit));
    }

    public int hintRank(int to, int rank)
            throws IllegalStateException, IndexOutOfBoundsException, IllegalArgumentException,
            UnsupportedOperationException {
        requireRunning();
        requirePlayer(to);
        if (to == mover || rank < 1 || rank > RANKS) {
            throw new IllegalArgumentException("the own hand, or no such rank");
        }
        return giveHint(to, rules.touchedByRank(rank));
    }

    // ---- Knowledge

    public int kinds(int player, int place) throws IllegalStateException, IndexOutOfBoundsException {
        requirePlace(player, place);
        return Integer.bitCount(knowledge.possible(player, player, place));
    }

    public boolean canBe(int player, int place, int card)
            throws IllegalStateException, IndexOutOfBoundsException, IllegalArgumentException {
        requirePlace(player, place);
        return hasKind(knowledge.possible(player, player, place), kindOfCard(card));
    }

    public int thinks(int player, int other, int place) throws IllegalStateException, IndexOutOfBoundsException {
        requireStarted();
        requirePlayer(player);
        requirePlace(other, place);
        return Integer.bitCount(knowledge.possible(player, other, place));
    }

    public long worlds(int player)
            throws IllegalStateException, IndexOutOfBoundsException, UnsupportedOperationException {
        requireStarted();
        requirePlayer(player);
        if (knowledge.choices(player) > MAX_WORLDS) {
            throw new UnsupportedOperationException("too many worlds");
        }
        return knowledge.countWorlds(player);
    }

    public boolean isPlayable(int player, int place) throws IllegalStateException, IndexOutOfBoundsException {
        requirePlace(player, place);
        return isKnownPlayable(player, place);
    }

    public boolean isUseless(int player, int place) throws IllegalStateException, IndexOutOfBoundsException {
        requirePlace(player, place);
        return isKnownUseless(player, place);
    }

    public boolean isCritical(int card) throws IllegalArgumentException {
        return board.isLastCopy(kindOfCard(card));
    }

    public int most() {
        return board.reachable();
    }

    public int pace() {
        return board.points() + pile.left() + playerCount - board.reachable();
    }

    public int chop(int player) throws IllegalStateException, IndexOutOfBoundsException, NoSuchElementException {
        requireStarted();
        requirePlayer(player);
        int place = hands.oldestUntouched(player);
        if (place == NONE) {
            throw new NoSuchElementException("all cards are touched");
        }
        return place;
    }

    // ---- Promises

    public int hints() {
        return log.size();
    }

    public int focus(int hint) throws IndexOutOfBoundsException {
        requireHint(hint);
        return told(pile.kindOf(log.focusOf(hint)));
    }

    public char meaning(int hint) throws IndexOutOfBoundsException {
        requireHint(hint);
        return log.isSave(hint) ? 's' : 'p';
    }

    public char stands(int hint) throws IndexOutOfBoundsException {
        requireHint(hint);
        return log.stateOf(hint);
    }

    public int badTouch(int hint) throws IndexOutOfBoundsException {
        requireHint(hint);
        return log.badTouchesOf(hint);
    }

    public int finesses(int hint) throws IndexOutOfBoundsException, NoSuchElementException {
        requireHint(hint);
        int number = log.finessesOf(hint);
        if (number == NONE) {
            throw new NoSuchElementException("a card ahead comes from nobody");
        }
        return number;
    }

    public int faults(int player) throws IndexOutOfBoundsException {
        requirePlayer(player);
        return player >= 0 && player < faultCounts.length ? faultCounts[player] : 0;
    }

    public int advice() throws IllegalStateException, NoSuchElementException {
        requireRunning();
        int act = playToAdvise();
        if (act == NONE && board.clueCount() > 0) {
            act = firstHint(board.nextKinds(), true);
        }
        if (act == NONE && board.clueCount() < MAX_CLUES) {
            act = discardToAdvise();
        }
        if (act == NONE && board.clueCount() > 0) {
            act = firstHint(ALL_KINDS, false);
        }
        if (act == NONE) {
            throw new NoSuchElementException("nothing to do");
        }
        return act;
    }

    // ---- Hats and open games

    public int hat(int player) throws IllegalStateException, IndexOutOfBoundsException {
        requireStarted();
        requirePlayer(player);
        return hatOf(player);
    }

    public int code(int giver) throws IllegalStateException, IndexOutOfBoundsException {
        requireStarted();
        requirePlayer(giver);
        return hatsBeside(giver, giver);
    }

    public int learns(int giver, int player)
            throws IllegalStateException, IndexOutOfBoundsException, IllegalArgumentException {
        requireStarted();
        requirePlayer(giver);
        requirePlayer(player);
        if (giver == player) {
            throw new IllegalArgumentException("both are the same");
        }
        return Math.floorMod(hatsBeside(giver, giver) - hatsBeside(giver, player), HATS);
    }

    public int best(int turns) throws IllegalStateException, IllegalArgumentException {
        requireStarted();
        if (turns < 0 || turns > MAX_TURNS) {
            throw new IllegalArgumentException("turns out of range");
        }
        return board.points() + bestGain(turnsToCome(turns));
    }

    // ---- Figures

    public long checksum() {
        long sum = 0;
        for (int player = 0; player < playerCount; player++) {
            for (int place = 0; place < hands.sizeOf(player); place++) {
                sum = 31 * sum + told(kindAt(player, place));
            }
        }
        return sum;
    }

    public float keptShare() throws ArithmeticException {
        if (log.size() == 0) {
            throw new ArithmeticException("no hints");
        }
        return (float) log.keptCount() / (float) log.size();
    }

    public double meanKinds() throws ArithmeticException {
        int cards = 0;
        int sum = 0;
        for (int player = 0; player < playerCount; player++) {
            for (int place = 0; place < hands.sizeOf(player); place++) {
                cards++;
                sum += Integer.bitCount(knowledge.possible(player, player, place));
            }
        }
        if (cards == 0) {
            throw new ArithmeticException("no cards in hands");
        }
        return (double) sum / (double) cards;
    }

    public boolean isSound() {
        for (int player = 0; player < playerCount; player++) {
            for (int place = 0; place < hands.sizeOf(player); place++) {
                if (!hasKind(knowledge.possible(player, player, place), kindAt(player, place))) {
                    return false;
                }
            }
        }
        return true;
    }

    // ---- What the calls ask for

    private void requireStarted() {
        if (!started) {
            throw new IllegalStateException("not started");
        }
    }

    private void requireUnstarted() {
        if (started) {
            throw new IllegalStateException("started");
        }
    }

    private void requireRunning() {
        if (!started || over) {
            throw new IllegalStateException("not started, or over");
        }
    }

    private void requirePlayer(int player) {
        if (player < 0 || player >= playerCount) {
            throw new IndexOutOfBoundsException("no such player");
        }
    }

    private void requirePlace(int player, int place) {
        requireStarted();
        requirePlayer(player);
        if (!hands.has(player, place)) {
            throw new IndexOutOfBoundsException("no such place");
        }
    }

    private void requireOwnPlace(int place) {
        if (!hands.has(mover, place)) {
            throw new IndexOutOfBoundsException("no such place");
        }
    }

    private void requireSuit(int suit) {
        if (!rules.has(suit)) {
            throw new IndexOutOfBoundsException("no such suit");
        }
    }

    private void requireHint(int hint) {
        if (hint < 0 || hint >= log.size()) {
            throw new IndexOutOfBoundsException("no such hint");
        }
    }

    private int kindOfCard(int card) {
        int suit = card / 10;
        int rank = card % 10;
        if (card < 0 || !rules.has(suit) || rank < 1 || rank > RANKS) {
            throw new IllegalArgumentException("no such card");
        }
        return RANKS * suit + rank - 1;
    }

    private static boolean isSeed(int seed) {
        return seed >= 0 && seed < SEEDS;
    }

    private static boolean isStyle(char style) {
        return style == 'n' || style == 'd' || style == 'r' || style == 'w' || style == 'u';
    }

    // ---- Cards

    private static int told(int kind) {
        return 10 * (kind / RANKS) + kind % RANKS + 1;
    }

    private static int bitOf(int kind) {
        return kind >= 0 && kind < KINDS ? 1 << kind : 0;
    }

    private static boolean hasKind(int set, int kind) {
        return kind >= 0 && kind < KINDS && (set >> kind & 1) != 0;
    }

    private int kindAt(int player, int place) {
        return pile.kindOf(hands.idAt(player, place));
    }

    // ---- The course of a game

    private void layGame(int players, int suits, int seed) {
        playerCount = players;
        rules.reset(suits);
        pile.shuffle(seed);
        board.clear();
        hands.clear();
        log.reset(players);
        for (int player = 0; player < faultCounts.length; player++) {
            faultCounts[player] = 0;
        }
        mover = 0;
        lastTurns = NONE;
        started = false;
        over = false;
    }

    private void drawFor(int player) {
        if (pile.left() > 0) {
            hands.insert(player, pile.draw());
        }
    }

    private void finishCard(int place, boolean onItsSuit) {
        log.settle(hands.idAt(mover, place), onItsSuit);
        hands.remove(mover, place);
        drawFor(mover);
        endTurn();
    }

    private int giveHint(int to, int touching) {
        int touched = countTouched(to, touching);
        if (board.clueCount() == 0 || touched == 0) {
            throw new UnsupportedOperationException("no clue, or nothing touched");
        }
        if (!reachesUntouched(to, touching)) {
            addFault(mover);
        }
        log.add(mover, to, touching);
        board.payClue();
        endTurn();
        return touched;
    }

    private void endTurn() {
        if (lastTurns > 0) {
            lastTurns--;
        } else if (pile.left() == 0) {
            lastTurns = playerCount;
        }
        over = board.strikeCount() >= MAX_STRIKES || board.isWhole() || lastTurns == 0;
        mover = playerBehind(mover, 1);
    }

    private int playerBehind(int player, int steps) {
        int behind = player + steps;
        return behind < playerCount ? behind : behind - playerCount;
    }

    private void addFault(int player) {
        if (player >= 0 && player < faultCounts.length) {
            faultCounts[player]++;
        }
    }

    private int countTouched(int player, int touching) {
        int number = 0;
        for (int place = 0; place < hands.sizeOf(player); place++) {
            if (hasKind(touching, kindAt(player, place))) {
                number++;
            }
        }
        return number;
    }

    private boolean reachesUntouched(int player, int wanted) {
        for (int place = 0; place < hands.sizeOf(player); place++) {
            boolean fresh = !hands.isTouched(hands.idAt(player, place));
            if (fresh && hasKind(wanted, kindAt(player, place))) {
                return true;
            }
        }
        return false;
    }

    // ---- What is known, and advice by it

    private boolean isKnownPlayable(int player, int place) {
        return (knowledge.possible(player, player, place) & ~board.nextKinds()) == 0;
    }

    private boolean isKnownUseless(int player, int place) {
        return (knowledge.possible(player, player, place) & ~board.uselessKinds()) == 0;
    }

    private int playToAdvise() {
        for (int place = 0; place < hands.sizeOf(mover); place++) {
            if (isKnownPlayable(mover, place)) {
                return 10 + place;
            }
        }
        return NONE;
    }

    private int discardToAdvise() {
        int size = hands.sizeOf(mover);
        for (int place = 0; place < size; place++) {
            if (isKnownUseless(mover, place)) {
                return 20 + place;
            }
        }
        int place = hands.oldestUntouched(mover);
        if (place == NONE) {
            place = size - 1;
        }
        return place == NONE ? NONE : 20 + place;
    }

    private int firstHint(int wanted, boolean untouchedOnly) {
        for (int steps = 1; steps < playerCount; steps++) {
            int player = playerBehind(mover, steps);
            int hint = firstHintTo(player, wanted, untouchedOnly);
            if (hint != NONE) {
                return 100 * (player + 1) + hint;
            }
        }
        return NONE;
    }

    private int firstHintTo(int player, int wanted, boolean untouchedOnly) {
        for (int suit = 0; suit < rules.number(); suit++) {
            int reached = wanted & rules.touchedBySuit(suit);
            if (rules.canBeTold(suit) && reaches(player, reached, untouchedOnly)) {
                return suit;
            }
        }
        for (int rank = 1; rank <= RANKS; rank++) {
            if (reaches(player, wanted & rules.touchedByRank(rank), untouchedOnly)) {
                return 10 + rank;
            }
        }
        return NONE;
    }

    private boolean reaches(int player, int wanted, boolean untouchedOnly) {
        return untouchedOnly ? reachesUntouched(player, wanted) : countTouched(player, wanted) > 0;
    }

    // ---- Hats and open cards

    private int hatOf(int player) {
        int sum = 0;
        for (int place = 0; place < hands.sizeOf(player); place++) {
            sum += told(kindAt(player, place));
        }
        return sum % HATS;
    }

    private int hatsBeside(int one, int other) {
        int sum = 0;
        for (int player = 0; player < playerCount; player++) {
            if (player != one && player != other) {
                sum += hatOf(player);
            }
        }
        return sum % HATS;
    }

    private int turnsToCome(int turns) {
        if (over) {
            return 0;
        }
        return lastTurns >= 0 ? Math.min(turns, lastTurns) : turns;
    }

    // Within two turns nobody comes to a drawn card, and a turn can always be let pass: by a hint with a clue,
    // by a discard without one. So only the cards in hands count.
    private int bestGain(int turns) {
        int next = board.nextKinds();
        if (turns <= 0) {
            return 0;
        }
        if (turns == 1) {
            return gainOf(mover, next);
        }
        int second = playerBehind(mover, 1);
        int gain = gainOf(second, next);
        for (int place = 0; place < hands.sizeOf(mover); place++) {
            int kind = kindAt(mover, place);
            if (hasKind(next, kind)) {
                int nextThen = next & ~bitOf(kind) | bitOf(rules.kindBehind(kind));
                gain = Math.max(gain, 1 + gainOf(second, nextThen));
            }
        }
        return gain;
    }

    private int gainOf(int player, int next) {
        return countTouched(player, next) > 0 ? 1 : 0;
    }

    // ---- The parts of a game

    /** The suits of a game with their kinds, here called styles, and the order in which cards are played. */
    private static final class Suits {
        private final char[] styles = new char[MAX_SUITS];
        private final int[] copiesByKind = new int[KINDS];
        private final int[] stepsByKind = new int[KINDS];
        private int count;

        void reset(int suits) {
            count = suits;
            for (int suit = 0; suit < MAX_SUITS; suit++) {
                setStyle(suit, 'n');
            }
        }

        int number() {
            return count;
        }

        boolean has(int suit) {
            return suit >= 0 && suit < count;
        }

        void setStyle(int suit, char style) {
            if (suit >= 0 && suit < styles.length) {
                styles[suit] = style;
                for (int step = 0; step < RANKS; step++) {
                    describe(kindOfStep(suit, step), step, style);
                }
            }
        }

        private void describe(int kind, int step, char style) {
            if (kind >= 0 && kind < copiesByKind.length && kind < stepsByKind.length) {
                boolean single = style == 'd' || step == RANKS - 1;
                int more = step == 0 ? 3 : 2;
                copiesByKind[kind] = single ? 1 : more;
                stepsByKind[kind] = step;
            }
        }

        private char styleOf(int suit) {
            return suit >= 0 && suit < styles.length ? styles[suit] : 'n';
        }

        int kindCount() {
            return RANKS * count;
        }

        int copies(int kind) {
            return kind >= 0 && kind < copiesByKind.length ? copiesByKind[kind] : 0;
        }

        /** How many cards of its suit are played ahead of this one. */
        int stepOf(int kind) {
            return kind >= 0 && kind < stepsByKind.length ? stepsByKind[kind] : 0;
        }

        int kindOfStep(int suit, int step) {
            boolean reversed = suit >= 0 && suit < styles.length && styles[suit] == 'r';
            return RANKS * suit + (reversed ? RANKS - 1 - step : step);
        }

        int kindBehind(int kind) {
            int step = stepOf(kind) + 1;
            return step < RANKS ? kindOfStep(kind / RANKS, step) : NONE;
        }

        boolean canBeTold(int suit) {
            return styleOf(suit) != 'w' && styleOf(suit) != 'u';
        }

        int touchedBySuit(int told) {
            int set = 0;
            for (int kind = 0; kind < kindCount(); kind++) {
                int suit = kind / RANKS;
                char style = styleOf(suit);
                if (style == 'w' || suit == told && style != 'u') {
                    set |= bitOf(kind);
                }
            }
            return set;
        }

        int touchedByRank(int rank) {
            int set = 0;
            for (int suit = 0; suit < count; suit++) {
                set |= bitOf(RANKS * suit + rank - 1);
            }
            return set;
        }
    }

    /** All cards of a game; the place of a card is its id for the whole game. */
    private static final class Deck {
        private final Suits rules;
        private final int[] kindsById = new int[MAX_CARDS];
        private int count;
        private int drawn;

        Deck(Suits rules) {
            this.rules = rules;
        }

        void shuffle(int seed) {
            fill();
            int number = seed;
            for (int place = count - 1; place >= 1; place--) {
                number = (number * 1103 + 12345) % SEEDS;
                swap(place, number % (place + 1));
            }
        }

        private void fill() {
            count = 0;
            drawn = 0;
            for (int kind = 0; kind < rules.kindCount(); kind++) {
                int copies = rules.copies(kind);
                for (int copy = 0; copy < copies; copy++) {
                    put(count, kind);
                    count++;
                }
            }
        }

        int size() {
            return count;
        }

        int left() {
            return count - drawn;
        }

        int kindOf(int id) {
            return id >= 0 && id < count && id < kindsById.length ? kindsById[id] : NONE;
        }

        int find(int kind, int from) {
            for (int id = from; id < count; id++) {
                if (kindOf(id) == kind) {
                    return id;
                }
            }
            return NONE;
        }

        void swap(int one, int other) {
            int kind = kindOf(one);
            put(one, kindOf(other));
            put(other, kind);
        }

        private void put(int id, int kind) {
            if (id >= 0 && id < kindsById.length) {
                kindsById[id] = kind;
            }
        }

        int draw() {
            int id = drawn;
            drawn++;
            return id;
        }
    }

    /** What all see: the cards played and discarded, clues and strikes. */
    private static final class Board {
        private final Suits rules;
        private final int[] steps = new int[MAX_SUITS];
        private final int[] gone = new int[KINDS];
        private int clueTokens;
        private int strikeMarks;

        Board(Suits rules) {
            this.rules = rules;
        }

        void clear() {
            for (int suit = 0; suit < steps.length; suit++) {
                steps[suit] = 0;
            }
            for (int kind = 0; kind < gone.length; kind++) {
                gone[kind] = 0;
            }
            clueTokens = MAX_CLUES;
            strikeMarks = 0;
        }

        int clueCount() {
            return clueTokens;
        }

        int strikeCount() {
            return strikeMarks;
        }

        void payClue() {
            clueTokens--;
        }

        void gainClue() {
            if (clueTokens < MAX_CLUES) {
                clueTokens++;
            }
        }

        int stepsOf(int suit) {
            return suit >= 0 && suit < steps.length ? steps[suit] : 0;
        }

        int goneOf(int kind) {
            return kind >= 0 && kind < gone.length ? gone[kind] : 0;
        }

        int points() {
            int sum = 0;
            for (int suit = 0; suit < rules.number(); suit++) {
                sum += stepsOf(suit);
            }
            return sum;
        }

        boolean isWhole() {
            return points() == RANKS * rules.number();
        }

        boolean isNext(int kind) {
            return rules.stepOf(kind) == stepsOf(kind / RANKS);
        }

        boolean isPlayed(int kind) {
            return rules.stepOf(kind) < stepsOf(kind / RANKS);
        }

        /** Plays a card, as a strike if it is not the next one; returns whether it was this. */
        boolean playCard(int kind) {
            int suit = kind / RANKS;
            if (!isNext(kind) || suit < 0 || suit >= steps.length) {
                strikeMarks++;
                discardCard(kind);
                return false;
            }
            steps[suit]++;
            if (steps[suit] == RANKS) {
                gainClue();
            }
            return true;
        }

        void discardCard(int kind) {
            if (kind >= 0 && kind < gone.length) {
                gone[kind]++;
            }
        }

        /** How many cards of a suit can be on it in the end. */
        private int reachableOf(int suit) {
            for (int step = 0; step < RANKS; step++) {
                int kind = rules.kindOfStep(suit, step);
                if (goneOf(kind) >= rules.copies(kind)) {
                    return step;
                }
            }
            return RANKS;
        }

        int reachable() {
            int sum = 0;
            for (int suit = 0; suit < rules.number(); suit++) {
                sum += reachableOf(suit);
            }
            return sum;
        }

        boolean isUselessKind(int kind) {
            return isPlayed(kind) || rules.stepOf(kind) > reachableOf(kind / RANKS);
        }

        boolean isLastCopy(int kind) {
            return rules.copies(kind) - goneOf(kind) == 1 && !isUselessKind(kind);
        }

        int nextKinds() {
            int set = 0;
            for (int kind = 0; kind < rules.kindCount(); kind++) {
                if (isNext(kind)) {
                    set |= bitOf(kind);
                }
            }
            return set;
        }

        int uselessKinds() {
            int set = 0;
            for (int kind = 0; kind < rules.kindCount(); kind++) {
                if (isUselessKind(kind)) {
                    set |= bitOf(kind);
                }
            }
            return set;
        }
    }

    /** The cards in hands, newest first, and what hints tell of each. */
    private static final class Hands {
        private final int[] ids = new int[MAX_PLAYERS * MAX_HAND];
        private final int[] sizes = new int[MAX_PLAYERS];
        private final int[] hinted = new int[MAX_CARDS];
        private final boolean[] touched = new boolean[MAX_CARDS];

        void clear() {
            for (int player = 0; player < sizes.length; player++) {
                sizes[player] = 0;
            }
            for (int index = 0; index < ids.length; index++) {
                ids[index] = NONE;
            }
            for (int id = 0; id < MAX_CARDS && id < hinted.length && id < touched.length; id++) {
                hinted[id] = ALL_KINDS;
                touched[id] = false;
            }
        }

        int sizeOf(int player) {
            return player >= 0 && player < sizes.length ? sizes[player] : 0;
        }

        boolean has(int player, int place) {
            return place >= 0 && place < sizeOf(player);
        }

        /** The card at a place, NONE behind the last one of the hand. */
        int idAt(int player, int place) {
            int index = MAX_HAND * player + place;
            boolean fits = place >= 0 && place < MAX_HAND && index >= 0 && index < ids.length;
            return fits ? ids[index] : NONE;
        }

        private void put(int player, int place, int id) {
            int index = MAX_HAND * player + place;
            if (place >= 0 && place < MAX_HAND && index >= 0 && index < ids.length) {
                ids[index] = id;
            }
        }

        void insert(int player, int id) {
            int size = sizeOf(player);
            if (player >= 0 && player < sizes.length && size < MAX_HAND) {
                sizes[player] = size + 1;
                for (int place = size; place > 0; place--) {
                    put(player, place, idAt(player, place - 1));
                }
                put(player, 0, id);
            }
        }

        void remove(int player, int gap) {
            int size = sizeOf(player);
            if (player >= 0 && player < sizes.length && gap >= 0 && gap < size) {
                for (int place = gap; place < size; place++) {
                    put(player, place, idAt(player, place + 1));
                }
                sizes[player] = size - 1;
            }
        }

        boolean isTouched(int id) {
            return id >= 0 && id < touched.length && touched[id];
        }

        /** What a card can be by the hints alone. */
        int hintedKinds(int id) {
            return id >= 0 && id < hinted.length ? hinted[id] : 0;
        }

        void tell(int id, int touching, boolean touches) {
            if (id >= 0 && id < hinted.length && id < touched.length) {
                hinted[id] &= touches ? touching : ~touching;
                touched[id] |= touches;
            }
        }

        int oldestUntouched(int player) {
            for (int place = sizeOf(player) - 1; place >= 0; place--) {
                if (!isTouched(idAt(player, place))) {
                    return place;
                }
            }
            return NONE;
        }
    }

    /** What players know of hands. */
    private static final class Knowledge {
        private final Suits rules;
        private final Deck pile;
        private final Board board;
        private final Hands hands;
        private final int[] unseen = new int[KINDS];
        private final long[] ways = new long[1 << MAX_HAND];

        Knowledge(Suits rules, Deck pile, Board board, Hands hands) {
            this.rules = rules;
            this.pile = pile;
            this.board = board;
            this.hands = hands;
        }

        /** Counts the copies that two players do not both see; with one player twice, that this one does not. */
        private void countUnseen(int one, int other) {
            for (int kind = 0; kind < unseen.length; kind++) {
                int seen = board.goneOf(kind) + (board.isPlayed(kind) ? 1 : 0);
                unseen[kind] = kind < rules.kindCount() ? rules.copies(kind) - seen : 0;
            }
            for (int player = 0; player < MAX_PLAYERS; player++) {
                if (player != one && player != other) {
                    takeHandOff(player);
                }
            }
        }

        private void takeHandOff(int player) {
            for (int place = 0; place < hands.sizeOf(player); place++) {
                int kind = pile.kindOf(hands.idAt(player, place));
                if (kind >= 0 && kind < unseen.length) {
                    unseen[kind]--;
                }
            }
        }

        private int unseenKinds() {
            int set = 0;
            for (int kind = 0; kind < unseen.length; kind++) {
                if (unseen[kind] > 0) {
                    set |= bitOf(kind);
                }
            }
            return set;
        }

        /** What a card can be, as a player thinks that its holder knows; for the holder, what it can be. */
        int possible(int player, int holder, int place) {
            countUnseen(player, holder);
            return unseenKinds() & hands.hintedKinds(hands.idAt(holder, place));
        }

        long choices(int player) {
            long product = 1;
            for (int place = 0; place < hands.sizeOf(player); place++) {
                product *= Integer.bitCount(possible(player, player, place));
            }
            return product;
        }

        // ways[set] is in how many ways the kinds so far can go to just the places of the set.
        long countWorlds(int player) {
            for (int set = 0; set < ways.length; set++) {
                ways[set] = set == 0 ? 1 : 0;
            }
            countUnseen(player, player);
            for (int kind = 0; kind < unseen.length; kind++) {
                if (unseen[kind] > 0) {
                    spread(placesFor(player, kind), unseen[kind]);
                }
            }
            int all = (1 << hands.sizeOf(player)) - 1;
            return all >= 0 && all < ways.length ? ways[all] : 0;
        }

        private int placesFor(int player, int kind) {
            int places = 0;
            for (int place = 0; place < hands.sizeOf(player); place++) {
                if (hasKind(hands.hintedKinds(hands.idAt(player, place)), kind)) {
                    places |= 1 << place;
                }
            }
            return places;
        }

        // From the greatest set down, as each takes its sum from smaller ones that are not changed yet.
        private void spread(int places, int copies) {
            for (int set = ways.length - 1; set > 0; set--) {
                for (int part = 1; part <= set; part++) {
                    boolean fits = (part & ~(set & places)) == 0 && Integer.bitCount(part) <= copies;
                    int rest = set & ~part;
                    if (fits && rest >= 0 && rest < ways.length) {
                        ways[set] += ways[rest];
                    }
                }
            }
        }
    }

    /** The hints that were given, what they mean and how they stand. */
    private static final class HintLog {
        private final Suits rules;
        private final Deck pile;
        private final Board board;
        private final Hands hands;
        private final int[] focusIds = new int[MAX_HINTS];
        private final boolean[] saves = new boolean[MAX_HINTS];
        private final char[] states = new char[MAX_HINTS];
        private final int[] badTouches = new int[MAX_HINTS];
        private final int[] finesseCounts = new int[MAX_HINTS];
        private int players;
        private int count;

        HintLog(Suits rules, Deck pile, Board board, Hands hands) {
            this.rules = rules;
            this.pile = pile;
            this.board = board;
            this.hands = hands;
        }

        void reset(int playerCount) {
            players = playerCount;
            count = 0;
        }

        int size() {
            return count;
        }

        int focusOf(int hint) {
            return hint >= 0 && hint < focusIds.length ? focusIds[hint] : NONE;
        }

        boolean isSave(int hint) {
            return hint >= 0 && hint < saves.length && saves[hint];
        }

        char stateOf(int hint) {
            return hint >= 0 && hint < states.length ? states[hint] : '-';
        }

        int badTouchesOf(int hint) {
            return hint >= 0 && hint < badTouches.length ? badTouches[hint] : 0;
        }

        int finessesOf(int hint) {
            return hint >= 0 && hint < finesseCounts.length ? finesseCounts[hint] : NONE;
        }

        int keptCount() {
            int number = 0;
            for (int hint = 0; hint < count; hint++) {
                if (stateOf(hint) == 'k') {
                    number++;
                }
            }
            return number;
        }

        void settle(int id, boolean onItsSuit) {
            for (int hint = 0; hint < count && hint < states.length; hint++) {
                if (focusOf(hint) == id) {
                    states[hint] = onItsSuit ? 'k' : 'b';
                }
            }
        }

        // The focus goes by what was touched ahead of the hint, all else by what is touched behind it.
        void add(int giver, int to, int touching) {
            int focusId = findFocus(to, touching);
            int focusKind = pile.kindOf(focusId);
            boolean onChop = focusId == hands.idAt(to, hands.oldestUntouched(to));
            tellHand(to, touching);
            boolean fits = count < focusIds.length && count < saves.length && count < states.length
                    && count < badTouches.length && count < finesseCounts.length;
            if (count >= 0 && fits) {
                focusIds[count] = focusId;
                saves[count] = onChop && board.isLastCopy(focusKind) && !board.isNext(focusKind);
                states[count] = '-';
                badTouches[count] = countBadTouches(to, touching);
                finesseCounts[count] = countFinesses(giver, focusKind);
                count++;
            }
        }

        private int findFocus(int to, int touching) {
            int chopPlace = hands.oldestUntouched(to);
            int chopId = hands.idAt(to, chopPlace);
            if (chopPlace != NONE && hasKind(touching, pile.kindOf(chopId))) {
                return chopId;
            }
            int newest = NONE;
            for (int place = hands.sizeOf(to) - 1; place >= 0; place--) {
                int id = hands.idAt(to, place);
                if (hasKind(touching, pile.kindOf(id))) {
                    boolean better = newest == NONE || !hands.isTouched(id) || hands.isTouched(newest);
                    newest = better ? id : newest;
                }
            }
            return newest;
        }

        private void tellHand(int to, int touching) {
            for (int place = 0; place < hands.sizeOf(to); place++) {
                int id = hands.idAt(to, place);
                hands.tell(id, touching, hasKind(touching, pile.kindOf(id)));
            }
        }

        private int countBadTouches(int to, int touching) {
            int number = 0;
            for (int place = 0; place < hands.sizeOf(to); place++) {
                int id = hands.idAt(to, place);
                int kind = pile.kindOf(id);
                if (hasKind(touching, kind) && (board.isUselessKind(kind) || hasTouchedTwin(id))) {
                    number++;
                }
            }
            return number;
        }

        private boolean hasTouchedTwin(int id) {
            for (int player = 0; player < players; player++) {
                for (int place = 0; place < hands.sizeOf(player); place++) {
                    int other = hands.idAt(player, place);
                    if (other != id && pile.kindOf(other) == pile.kindOf(id) && hands.isTouched(other)) {
                        return true;
                    }
                }
            }
            return false;
        }

        /** By how many finesses the cards ahead of a focus come, NONE if one comes from nobody. */
        private int countFinesses(int giver, int focusKind) {
            int suit = focusKind / RANKS;
            int number = 0;
            long finessed = 0;
            for (int step = board.stepsOf(suit); step < rules.stepOf(focusKind); step++) {
                int id = findGiven(giver, rules.kindOfStep(suit, step), finessed);
                if (id == NONE) {
                    return NONE;
                }
                if (!hands.isTouched(id)) {
                    number++;
                    finessed |= 1L << id;
                }
            }
            return number;
        }

        private int findGiven(int giver, int kind, long finessed) {
            for (int steps = 1; steps < players; steps++) {
                int behind = giver + steps;
                int player = behind < players ? behind : behind - players;
                int prompted = findPrompt(player, kind);
                if (prompted != NONE && pile.kindOf(prompted) == kind) {
                    return prompted;
                }
                int hidden = findFinesse(player, finessed);
                if (hidden != NONE && pile.kindOf(hidden) == kind) {
                    return hidden;
                }
            }
            return NONE;
        }

        private int findPrompt(int player, int kind) {
            for (int place = 0; place < hands.sizeOf(player); place++) {
                int id = hands.idAt(player, place);
                if (hands.isTouched(id) && hasKind(hands.hintedKinds(id), kind)) {
                    return id;
                }
            }
            return NONE;
        }

        private int findFinesse(int player, long finessed) {
            for (int place = 0; place < hands.sizeOf(player); place++) {
                int id = hands.idAt(player, place);
                if (!hands.isTouched(id) && (finessed >> id & 1) == 0) {
                    return id;
                }
            }
            return NONE;
        }
    }
}
