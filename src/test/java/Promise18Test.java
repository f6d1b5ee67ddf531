/** Promise 18: genus. */
public final class Promise18Test {
    public static void main(String[] args) {
        Sentences of = Sentences.ofPromise(18, args);
        of.hold("GENUS k (0 to 2) of the HAND", Promise18Test::emptyHand);
        of.hold("GENUS k (0 to 2) of the HAND", Promise18Test::fullHand);
        of.hold("NONE for others", Promise18Test::others);
        of.hold("or without a GAME", Promise18Test::withoutGame);
        of.finish();
    }

    private static void genus(LastLoses x, String what, int... want) {
        for (int k = 0; k <= 2; k++) {
            Check.due(what + " genus " + k, x.genus(k), want[k]);
        }
    }

    private static void emptyHand() {
        genus(Check.told(Check.NIM), "no heaps", 1, 2, 0);
        genus(Check.told(Check.NO_MOVES, 12, 10), "heaps without moves", 1, 2, 0);
        genus(Check.told(Check.NIM, 1), "a heap of 1", 0, 3, 1);
    }

    private static void fullHand() {
        genus(Check.told(Check.TAKE_ONE, 12, 10), "22 beans", 1, 2, 0);
        genus(Check.told(Check.TAKE_ONE, 12, 9), "21 beans", 0, 3, 1);
        genus(Check.told(Check.NIM, 8, 7, 7), "8 7 7", 8, 10, 8);
        genus(Check.told(Check.KAYLES, 5), "Kayles 5", 1, 4, 6);
    }

    private static void others() {
        LastLoses x = Check.told(Check.TWO, 5);
        Check.outside("genus", x::genus, 3, 4, -2);
    }

    private static void withoutGame() {
        LastLoses x = new LastLoses();
        Check.none("genus", x.genus(0), x.genus(1), x.genus(2), x.genus(3), x.genus(-1));
    }
}
