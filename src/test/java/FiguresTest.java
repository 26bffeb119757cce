/** Promises 41 to 44. */
public final class FiguresTest {
    private static final Check check = new Check();
    private static final int[][] TWO = Laid.hands(Laid.hand(4, 12, 3, 11, 1), Laid.hand(2, 1, 15, 5, 2));

    public static void main(String[] args) {
        checksum();
        keptShare();
        meanKinds();
        isSound();
        check.end();
    }

    private static void checksum() {
        Hintworks x = new Hintworks();
        check.due("no cards in hands", x.checksum(), 0);
        Hintworks y = Laid.game("nn", TWO, 13);
        check.due("two hands", y.checksum(), 116085511995356L);
        y.hintRank(1, 2);
        check.due("a hint moves no card", y.checksum(), 116085511995356L);
        y.discard(0);
        check.due("a card drawn", y.checksum(), 116085511995356L + 11L * 31 * 31 * 31 * 31);
        Hintworks z = Laid.game("nnnn", Laid.hands(Laid.hand(35, 33, 33, 34), Laid.hand(25, 23, 23, 24),
                Laid.hand(15, 13, 13, 14), Laid.hand(1, 2, 3, 4)));
        check.due("with wrap-around", z.checksum(), sum(35, 33, 33, 34, 25, 23, 23, 24, 15, 13, 13, 14, 1, 2, 3, 4));
    }

    private static long sum(int... cards) {
        java.math.BigInteger sum = java.math.BigInteger.ZERO;
        for (int card : cards) {
            sum = sum.multiply(java.math.BigInteger.valueOf(31)).add(java.math.BigInteger.valueOf(card));
        }
        return sum.longValue();
    }

    private static void keptShare() {
        Hintworks x = new Hintworks();
        check.arithmetic(x, "no hints", () -> x.keptShare());
        Hintworks y = Laid.game("nn", Laid.hands(Laid.hand(4, 12, 3, 11, 1), Laid.hand(2, 3, 15, 5, 13)));
        y.hintRank(1, 2);
        check.due("none kept", y.keptShare(), 0.0f);
        y.hintSuit(0, 0);
        y.hintRank(1, 3);
        y.hintRank(0, 4);
        y.hintRank(1, 5);
        y.hintSuit(0, 1);
        check.due("none of six", y.keptShare(), 0.0f);
        y.play(4);
        check.due("one of six", y.keptShare(), 1.0f / 6.0f);
        y.play(0);
        check.due("two of six", y.keptShare(), 2.0f / 6.0f);
        y.discard(0);
        check.due("another card discarded", y.keptShare(), 2.0f / 6.0f);
        y.game(2, 2, 0);
        check.arithmetic(y, "no hints of the game before", () -> y.keptShare());
    }

    private static void meanKinds() {
        Hintworks x = new Hintworks();
        check.arithmetic(x, "no cards in hands", () -> x.meanKinds());
        Hintworks y = Laid.game("nn", TWO);
        check.due("at first", y.meanKinds(), 85.0 / 10.0);
        y.hintRank(1, 2);
        check.due("behind a hint", y.meanKinds(), (5 * 7 + 2 * 2 + 3 * 8) / 10.0);
        Hintworks z = Laid.game("n", Laid.hands(Laid.hand(1, 1, 1, 2, 2), Laid.hand(3, 3, 4, 4, 5)));
        z.play(0);
        check.due("nine cards", z.meanKinds(), (4 * 2 + 5 * 3) / 9.0);
    }

    private static void isSound() {
        Hintworks x = new Hintworks();
        check.due("not started", x.isSound(), true);
        for (int seed = 0; seed < 300; seed++) {
            Hintworks y = new Hintworks();
            y.game(2 + seed % 3, 2 + seed % 4, seed * 211);
            y.setSuit(0, "ndrwu".charAt(seed % 5), seed);
            y.setSuit(1, "ndrwu".charAt(seed / 5 % 5), seed * 7);
            if (y.deck() >= 16) {
                y.start();
                playOn(y);
            }
        }
    }

    private static void playOn(Hintworks x) {
        for (int turn = 0; turn < 100 && !x.isOver(); turn++) {
            Laid.follow(x, x.advice());
            check.due("sound", x.isSound(), true);
        }
        check.due("advice leads to an end", x.isOver(), true);
        check.due("who goes by knowledge makes no strike", x.strikes(), 0);
    }
}
