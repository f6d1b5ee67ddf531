/** Promise 23: simplest. */
public final class Promise23Test {
    public static void main(String[] args) {
        Sentences of = Sentences.ofPromise(23, args);
        of.hold("SIMPLEST: how many HEAPS of one size (1 to 12) it has, heap 0: its BEANS", Promise23Test::none);
        of.hold("SIMPLEST: how many HEAPS of one size (1 to 12) it has, heap 0: its BEANS", Promise23Test::sevenBeans);
        of.hold("-2: there is none", Promise23Test::thereIsNone);
        of.hold("-3: the HAND has more than 15 BEANS", Promise23Test::moreThan15);
        of.hold("NONE without these", Promise23Test::withoutHeap);
        of.hold("or a GAME", Promise23Test::withoutGame);
        of.finish();
    }

    private static void none() {
        LastLoses x = Check.told(Check.NIM);
        Check.heaps("of an empty hand", x::simplest);
        LastLoses y = Check.told(Check.TAKE_ONE, 12, 2);
        Check.heaps("of 14 beans", y::simplest);
        LastLoses z = Check.told(Check.NO_MOVES, 12, 3);
        Check.heaps("of what can't be moved", z::simplest);
    }

    private static void sevenBeans() {
        LastLoses x = Check.told(Check.NIM, 7);
        Check.heaps("7", x::simplest, 7);
        LastLoses y = Check.told(Check.NIM, 8, 7);
        Check.due("8 7, of 15 beans", y.simplest(0), -2);
        LastLoses z = Check.told(Check.NIM, 4, 3, 1, 1);
        Check.heaps("1 1 3 4", z::simplest, 7);
    }

    private static void thereIsNone() {
        LastLoses x = Check.told(Check.NIM, 8);
        for (int heap = 0; heap <= 12; heap++) {
            Check.due("8, heap " + heap, x.simplest(heap), -2);
        }
    }

    private static void moreThan15() {
        LastLoses x = Check.told(Check.TAKE_ONE, 12, 3);
        Check.due("15", x.simplest(0), 1);
        x.put(1);
        for (int heap = 0; heap <= 12; heap++) {
            Check.due("16, heap " + heap, x.simplest(heap), -3);
        }
        x.put(6);
        Check.due("22", x.simplest(0), -3);
        LastLoses first = Check.told(Check.TAKE_ONE, 8, 8);
        Check.due("8 8, the first of 16", first.simplest(0), -3);
        LastLoses last = Check.told(Check.TAKE_ONE, 1, 1, 1, 1, 1, 1, 1, 1, 1, 1, 1, 1, 1, 1, 1);
        Check.due("fifteen heaps of 1, the last of 15", last.simplest(0), 1);
    }

    private static void withoutHeap() {
        LastLoses x = Check.told(Check.NIM, 2);
        Check.outside("simplest", x::simplest, 13, -2);
        LastLoses none = Check.told(Check.NIM, 8);
        Check.outside("simplest where there is none", none::simplest, 13, -2);
        LastLoses great = Check.told(Check.NIM, 12, 10);
        Check.outside("simplest of 22", great::simplest, 13, -2);
    }

    private static void withoutGame() {
        LastLoses x = new LastLoses();
        Check.none("simplest", x.simplest(0), x.simplest(1), x.simplest(12), x.simplest(13));
    }
}
