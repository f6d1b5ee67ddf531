/** Promise 10: wild. */
public final class Promise10Test {
    public static void main(String[] args) {
        Sentences of = Sentences.ofPromise(10, args);
        of.hold("WILD: likewise", Promise10Test::kayles);
        of.hold("WILD: likewise", Promise10Test::heapOf12);
        of.hold("WILD: likewise", Promise10Test::thereIsNone);
        of.hold("WILD: likewise", Promise10Test::others);
        of.hold("WILD: likewise", Promise10Test::withoutGame);
        of.finish();
    }

    private static void kayles() {
        LastLoses x = Check.told(Check.KAYLES, 12);
        Check.heaps("Kayles", x::wild, 5);
        Check.due("the hand stays", x.hand(12), 1);
    }

    private static void heapOf12() {
        LastLoses x = Check.told("octal .06", 12);
        Check.heaps("a heap of 12 alone", x::wild, 12);
        Check.due("of nimber 2", x.state(2), 2);
        Check.due("with 1", x.genus(0), 1);
        Check.due("4", x.genus(1), 4);
        Check.due("2", x.genus(2), 2);
    }

    private static void thereIsNone() {
        for (String game : new String[] {Check.NO_MOVES, Check.TAKE_ONE, Check.TWO, Check.NIM}) {
            LastLoses x = Check.told(game);
            for (int heap = 0; heap <= 12; heap++) {
                Check.due(game + " wild " + heap, x.wild(heap), -2);
            }
        }
    }

    private static void others() {
        LastLoses x = Check.told(Check.KAYLES);
        Check.outside("wild", x::wild, 13, -2);
        LastLoses none = Check.told(Check.TWO);
        Check.outside("wild where there is none", none::wild, 13, -2);
    }

    private static void withoutGame() {
        LastLoses x = new LastLoses();
        for (int heap = -1; heap <= 13; heap++) {
            Check.due("wild of " + heap, x.wild(heap), -1);
        }
    }
}
