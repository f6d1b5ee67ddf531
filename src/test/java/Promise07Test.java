/** Promise 7: nimber. */
public final class Promise07Test {
    public static void main(String[] args) {
        Sentences of = Sentences.ofPromise(7, args);
        of.hold("NIMBER of a HEAP (1 to 12)", Promise07Test::leastAndGreatest);
        of.hold("NIMBER of a HEAP (1 to 12)", Promise07Test::handDoesNotMatter);
        of.hold("NONE without it", Promise07Test::withoutHeap);
        of.hold("or a GAME", Promise07Test::withoutGame);
        of.finish();
    }

    private static void leastAndGreatest() {
        LastLoses none = Check.told(Check.NO_MOVES);
        LastLoses all = Check.told(Promise05Test.ALL_MOVES);
        LastLoses eight = Check.told(Check.NIM);
        for (int heap = 1; heap <= 12; heap++) {
            Check.due("no moves, " + heap, none.nimber(heap), 0);
            // two parts joined are never more than their beans, so every heap is its own beans
            Check.due("all moves, " + heap, all.nimber(heap), heap);
            Check.due("at most eight taken, " + heap, eight.nimber(heap), heap % 9);
        }
    }

    private static void handDoesNotMatter() {
        LastLoses x = Check.told(Check.TWO, 12, 10);
        Check.due("the greatest", x.nimber(12), 0);
        Check.due("the least", x.nimber(1), 1);
    }

    private static void withoutHeap() {
        LastLoses x = Check.told(Check.TWO);
        Check.outside("nimber", x::nimber, 0, 13);
    }

    private static void withoutGame() {
        LastLoses x = new LastLoses();
        for (int heap = 0; heap <= 13; heap++) {
            Check.due("nimber of " + heap, x.nimber(heap), -1);
        }
    }
}
