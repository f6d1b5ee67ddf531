/** Promise 22: apart. */
public final class Promise22Test {
    public static void main(String[] args) {
        Sentences of = Sentences.ofPromise(22, args);
        of.hold("APART: how many HEAPS of one size (1 to 12) it has, heap 0: its BEANS", Promise22Test::none);
        of.hold("APART: how many HEAPS of one size (1 to 12) it has, heap 0: its BEANS", Promise22Test::sevenBeans);
        of.hold("-2: there is none", Promise22Test::thereIsNone);
        of.hold("-2: there is none", Promise22Test::byEightBeansAlone);
        of.hold("-3: the HAND or what is KEPT has more than 15 BEANS", Promise22Test::moreThan15);
        of.hold("NONE without these", Promise22Test::withoutHeap);
        of.hold("NONE without these", Promise22Test::withoutKept);
        of.hold("NONE without these", Promise22Test::noneAheadOfUnknown);
        of.hold("NONE without these", Promise22Test::withoutGame);
        of.finish();
    }

    /** A hand with another one kept under a number. */
    private static LastLoses kept(String game, int k, int[] kept, int... hand) {
        LastLoses x = Check.told(game, kept);
        x.keep(k);
        x.clear();
        Check.put(x, hand);
        return x;
    }

    private static int[] of(int... heaps) {
        return heaps;
    }

    private static void none() {
        LastLoses x = kept(Check.NIM, 2, of(1));
        Check.heaps("by nothing put beside", heap -> x.apart(2, heap));
    }

    private static void sevenBeans() {
        LastLoses x = kept(Check.NIM, 0, of(7), 8);
        Check.heaps("7 and 8", heap -> x.apart(0, heap), 7);
        LastLoses y = kept(Check.NIM, 1, of(8), 7);
        Check.heaps("8 and 7", heap -> y.apart(1, heap), 7);
        LastLoses z = kept(Check.TWO, 1, of(1, 1, 1), 2, 2);
        Check.heaps("1 1 1 and 2 2", heap -> z.apart(1, heap), 2, 2);
    }

    private static void thereIsNone() {
        LastLoses x = kept(Check.NIM, 0, of());
        Check.due("both empty", x.apart(0, 0), -2);
        LastLoses y = kept(Check.TWO, 0, of(1, 1), 12, 3);
        for (int heap = 0; heap <= 12; heap++) {
            Check.due("1 1 and 12 3, heap " + heap, y.apart(0, heap), -2);
        }
    }

    private static void byEightBeansAlone() {
        LastLoses x = kept(Check.NIM, 0, of(8), 8, 1);
        Check.due("8 and 8 1", x.apart(0, 0), -2);
        x.put(8);
        Check.due("8 1 beside 8 wins", x.state(0), 1);
        x.move(1, 0, 0);
        Check.due("8 beside 8 loses", x.state(0), 0);
    }

    private static void moreThan15() {
        LastLoses x = kept(Check.TWO, 0, of(12, 3), 10, 5);
        // beside a heap of 1 just 12 3 loses
        Check.heaps("15 and 15", heap -> x.apart(0, heap), 1);
        x.put(1);
        Check.due("16 in hand", x.apart(0, 0), -3);
        Check.due("16 in hand, a heap", x.apart(0, 12), -3);
        x.keep(1);
        Check.due("16 both", x.apart(1, 0), -3);
        x.undo();
        Check.due("16 kept", x.apart(1, 0), -3);
        x.clear();
        Check.due("16 kept, the hand empty", x.apart(1, 1), -3);
        // of 16 beans the first one is 8 8
        Check.put(x, 8, 8);
        Check.due("8 8", x.apart(0, 0), -3);
        x.put(6);
        Check.due("22", x.apart(0, 0), -3);
        // of 15 beans the last one is fifteen heaps of 1
        LastLoses ones = kept(Check.TWO, 0, of(), 1, 1, 1, 1, 1, 1, 1, 1, 1, 1, 1, 1, 1, 1, 1);
        Check.due("fifteen heaps", ones.apart(0, 0), 0);
        ones.put(1);
        Check.due("sixteen heaps", ones.apart(0, 0), -3);
    }

    private static void withoutHeap() {
        LastLoses x = kept(Check.NIM, 0, of(1), 2);
        Check.outside("apart heap", heap -> x.apart(0, heap), 13, -2);
    }

    private static void withoutKept() {
        LastLoses x = Check.told(Check.NIM, 2);
        Check.none("nothing is kept", x.apart(0, 0), x.apart(1, 0), x.apart(2, 0));
        x.keep(1);
        Check.none("nothing under these", x.apart(0, 0), x.apart(2, 0));
        Check.outside("apart k", k -> x.apart(k, 0), 3, 33);
        Check.due("under 1", x.apart(1, 0), -2);
    }

    private static void noneAheadOfUnknown() {
        LastLoses x = kept(Check.NIM, 0, of(12, 4), 12, 10);
        Check.due("both too great", x.apart(0, 0), -3);
        Check.none("no such heap, nothing kept", x.apart(0, 13), x.apart(0, -1), x.apart(1, 0), x.apart(3, 0));
    }

    private static void withoutGame() {
        LastLoses x = new LastLoses();
        Check.none("apart", x.apart(0, 0), x.apart(1, 1), x.apart(2, 12), x.apart(3, 13));
    }
}
