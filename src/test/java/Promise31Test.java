/** Promise 31: sets. */
public final class Promise31Test {
    private static final String WORDS = "ELEMENTS that are LOST (what 0), of the KERNEL (1), UNITS (2), IDLE (3), as bits";

    public static void main(String[] args) {
        Sentences of = Sentences.ofPromise(31, args);
        of.hold(WORDS, Promise31Test::oneElement);
        of.hold(WORDS, Promise31Test::kayles);
        of.hold(WORDS, Promise31Test::sixteenElements);
        of.hold("-3: UNKNOWN", Promise31Test::unknown);
        of.hold("NONE without these", Promise31Test::withoutN);
        of.hold("NONE without these", Promise31Test::withoutWhat);
        of.hold("NONE without these", Promise31Test::withoutGame);
        of.finish();
    }

    private static void sets(String game, int n, int... want) {
        LastLoses x = Check.told(game);
        for (int what = 0; what <= 3; what++) {
            Check.due(game + " set " + what + " of " + n, x.sets(n, what), want[what]);
        }
    }

    private static void oneElement() {
        sets(Check.NO_MOVES, 1, 0, 1, 1, 1);
        sets(Check.NO_MOVES, 6, 0, 1, 1, 1);
        sets(Check.TAKE_ONE, 1, 2, 3, 3, 1);
    }

    private static void kayles() {
        sets(Check.KAYLES, 2, 18, 60, 3, 17);
        sets(Check.KAYLES, 5, 98, 4044, 51, 65);
    }

    private static void sixteenElements() {
        sets(Quotients.SIXTEEN, 6, 9234, 20624, 3, 1041);
    }

    private static void unknown() {
        LastLoses x = Quotients.unknown();
        for (int what = 0; what <= 3; what++) {
            Check.due("set " + what, x.sets(Quotients.UNKNOWN, what), -3);
        }
        Check.none("but behind a wrong what", x.sets(Quotients.UNKNOWN, 4), x.sets(Quotients.UNKNOWN, -1));
    }

    private static void withoutN() {
        LastLoses x = Check.told(Check.TWO);
        Check.outside("sets n", n -> x.sets(n, 0), 0, 7);
    }

    private static void withoutWhat() {
        LastLoses x = Check.told(Check.TWO);
        Check.outside("sets what", what -> x.sets(2, what), 4, 5);
    }

    private static void withoutGame() {
        LastLoses x = new LastLoses();
        Check.none("sets", x.sets(1, 0), x.sets(6, 3), x.sets(0, 0), x.sets(7, 4));
    }
}
