/** Promise 5: moves. */
public final class Promise05Test {
    // whatever a heap of 9 and more can't do by eight digits is told by also
    static final String ALL_MOVES = "octal.77777777;also9to0;also10to0;also10to1;also11to0;also11to1;also11to2"
            + ";also11to1 1;also12to0;also12to1;also12to2;also12to1 1;also12to3;also12to1 2";

    public static void main(String[] args) {
        Sentences of = Sentences.ofPromise(5, args);
        of.hold("How many MOVES a HEAP has", Promise05Test::noMoves);
        of.hold("How many MOVES a HEAP has", Promise05Test::allMoves);
        of.hold("NONE without it (1 to 12)", Promise05Test::withoutHeap);
        of.hold("or a GAME", Promise05Test::withoutGame);
        of.finish();
    }

    private static void noMoves() {
        LastLoses none = Check.told(Check.NO_MOVES);
        LastLoses one = Check.told(Check.TAKE_ONE);
        for (int heap = 1; heap <= 12; heap++) {
            Check.due("none of " + heap, none.moves(heap), 0);
            Check.due("one of " + heap, one.moves(heap), 1);
        }
    }

    private static void allMoves() {
        LastLoses x = Check.told(ALL_MOVES);
        Check.due("lines", x.count(1), 13);
        int[] all = {1, 2, 4, 6, 9, 12, 16, 20, 25, 30, 36, 42};
        for (int heap = 1; heap <= 12; heap++) {
            Check.due("all of " + heap, x.moves(heap), all[heap - 1]);
        }
    }

    private static void withoutHeap() {
        LastLoses x = Check.told(Check.KAYLES);
        Check.due("the least heap", x.moves(1), 1);
        Check.due("the greatest heap", x.moves(12), 12);
        Check.outside("moves", x::moves, 0, 13);
    }

    private static void withoutGame() {
        LastLoses x = new LastLoses();
        for (int heap = 0; heap <= 13; heap++) {
            Check.due("moves of " + heap, x.moves(heap), -1);
        }
    }
}
