/** Promise 9: odd. */
public final class Promise09Test {
    public static void main(String[] args) {
        Sentences of = Sentences.ofPromise(9, args);
        of.hold("ODD: how many HEAPS of one size it has (0 none; 1 to 12), heap 0: its BEANS", Promise09Test::kayles);
        of.hold("ODD: how many HEAPS of one size it has (0 none; 1 to 12), heap 0: its BEANS", Promise09Test::heapOf12);
        of.hold("-2: there is none", Promise09Test::thereIsNone);
        of.hold("NONE for others", Promise09Test::others);
        of.hold("or without a GAME", Promise09Test::withoutGame);
        of.finish();
    }

    private static void kayles() {
        LastLoses x = Check.told(Check.KAYLES, 12);
        Check.heaps("Kayles", x::odd, 1, 5);
        Check.due("the hand stays", x.hand(12), 1);
    }

    private static void heapOf12() {
        LastLoses x = Check.told(Check.DAWSON);
        Check.heaps("Dawson's Kayles", x::odd, 12);
    }

    private static void thereIsNone() {
        for (String game : new String[] {Check.NO_MOVES, Check.TAKE_ONE, Check.TWO, Check.NIM}) {
            LastLoses x = Check.told(game);
            for (int heap = 0; heap <= 12; heap++) {
                Check.due(game + " odd " + heap, x.odd(heap), -2);
            }
        }
    }

    private static void others() {
        LastLoses x = Check.told(Check.KAYLES);
        Check.outside("odd", x::odd, 13, -2);
        LastLoses none = Check.told(Check.TWO);
        Check.outside("odd where there is none", none::odd, 13, -2);
    }

    private static void withoutGame() {
        LastLoses x = new LastLoses();
        for (int heap = -1; heap <= 13; heap++) {
            Check.due("odd of " + heap, x.odd(heap), -1);
        }
    }
}
