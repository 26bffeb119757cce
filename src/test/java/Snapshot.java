/** All that can be asked of an object without changing it, as a text. */
final class Snapshot {
    private final StringBuilder text = new StringBuilder();

    private Snapshot() {
    }

    static String of(Hintworks x) {
        Snapshot shot = new Snapshot();
        shot.addTable(x);
        shot.addCards(x);
        shot.addHints(x);
        for (int player = 0; player < 4; player++) {
            shot.addPlayer(x, player);
        }
        return shot.text.toString();
    }

    /**
     * All that an object answers now, and what comes of its game from now on as its players go by advice. With
     * what a test may have called ahead these stay below the 512 calls that the document promises.
     */
    static String courseOf(Hintworks x) {
        StringBuilder course = new StringBuilder(of(x));
        course.append("start=").append(Check.outcome(x::start)).append('\n');
        String advice = Check.outcome(x::advice);
        for (int turn = 0; turn < 24 && !advice.startsWith("throws"); turn++) {
            Laid.follow(x, Integer.parseInt(advice));
            course.append(advice).append(' ').append(x.checksum()).append(' ').append(x.clues()).append('\n');
            advice = Check.outcome(x::advice);
        }
        course.append(advice).append(' ').append(x.score()).append(' ').append(x.strikes()).append(' ');
        return course.append(x.hints()).append(' ').append(x.deck()).toString();
    }

    private void add(String name, Check.Call call) {
        text.append(name).append('=').append(Check.outcome(call)).append('\n');
    }

    private void addTable(Hintworks x) {
        add("deck", x::deck);
        add("turn", x::turn);
        add("clues", x::clues);
        add("strikes", x::strikes);
        add("score", x::score);
        add("isOver", x::isOver);
        add("most", x::most);
        add("pace", x::pace);
        add("hints", x::hints);
        add("advice", x::advice);
        for (int turns = 0; turns <= 2; turns++) {
            int number = turns;
            add("best " + turns, () -> x.best(number));
        }
        add("checksum", x::checksum);
        add("keptShare", x::keptShare);
        add("meanKinds", x::meanKinds);
        add("isSound", x::isSound);
    }

    private void addCards(Hintworks x) {
        for (int suit = 0; suit < 5; suit++) {
            for (int rank = 1; rank <= 5; rank++) {
                int card = 10 * suit + rank;
                add("discarded " + card, () -> x.discarded(card));
                add("isCritical " + card, () -> x.isCritical(card));
            }
        }
    }

    private void addHints(Hintworks x) {
        for (int number = 0; number < x.hints(); number++) {
            int hint = number;
            add("focus " + hint, () -> x.focus(hint));
            add("meaning " + hint, () -> x.meaning(hint));
            add("stands " + hint, () -> x.stands(hint));
            add("badTouch " + hint, () -> x.badTouch(hint));
            add("finesses " + hint, () -> x.finesses(hint));
        }
    }

    private void addPlayer(Hintworks x, int player) {
        add("hand " + player, () -> x.hand(player));
        add("faults " + player, () -> x.faults(player));
        add("chop " + player, () -> x.chop(player));
        add("hat " + player, () -> x.hat(player));
        add("code " + player, () -> x.code(player));
        add("worlds " + player, () -> x.worlds(player));
        for (int number = 0; number < 5; number++) {
            int place = number;
            add("cardAt " + player + " " + place, () -> x.cardAt(player, place));
            add("kinds " + player + " " + place, () -> x.kinds(player, place));
            add("isPlayable " + player + " " + place, () -> x.isPlayable(player, place));
            add("isUseless " + player + " " + place, () -> x.isUseless(player, place));
        }
    }
}
