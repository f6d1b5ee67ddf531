/** Promise 12: move. */
public final class Promise12Test {
    public static void main(String[] args) {
        Sentences of = Sentences.ofPromise(12, args);
        of.hold("MOVE of a HEAP in HAND to A and B", Promise12Test::toBothParts);
        of.hold("MOVE of a HEAP in HAND to A and B", Promise12Test::oneOfLikeHeaps);
        of.hold("1 if the HAND WINS then, else 0", Promise12Test::winsOrLoses);
        of.hold("NONE, and nothing happens, without that HEAP", Promise12Test::withoutHeap);
        of.hold("or MOVE", Promise12Test::withoutMove);
        of.hold("or MOVE", Promise12Test::withoutMoveOfThatHeap);
        of.hold("or MOVE", Promise12Test::withoutGame);
        of.finish();
    }

    private static void toBothParts() {
        LastLoses x = Check.told(Promise05Test.ALL_MOVES, 12, 10);
        x.move(12, 5, 6);
        Check.heaps("to 5 and 6", x::hand, 5, 6, 10);
        x.move(10, 0, 9);
        Check.heaps("to 9", x::hand, 5, 6, 9);
        x.move(9, 0, 0);
        Check.heaps("to none", x::hand, 5, 6);
        Check.due("acts", x.count(3), 5);
        Check.due("undone", x.undo(), 4);
        Check.heaps("back", x::hand, 5, 6, 9);
    }

    private static void oneOfLikeHeaps() {
        LastLoses x = Check.told(Check.KAYLES, 5, 5, 5);
        x.move(5, 2, 2);
        Check.heaps("one of three", x::hand, 2, 2, 5, 5);
    }

    private static void winsOrLoses() {
        LastLoses x = Check.told(Check.TAKE_ONE, 3);
        Check.due("2 wins", x.move(3, 0, 2), 1);
        Check.due("1 loses", x.move(2, 0, 1), 0);
        Check.due("none wins", x.move(1, 0, 0), 1);
        LastLoses stuck = Check.told("octal .0;also 12 to 11 0", 12);
        Check.due("a heap without moves wins", stuck.move(12, 0, 11), 1);
    }

    private static void withoutHeap() {
        LastLoses x = Check.told(Check.TWO, 4, 2);
        x.keep(0);
        Check.refused(x, "not in hand", -1, () -> x.move(3, 0, 2), () -> x.move(1, 0, 0), () -> x.move(12, 0, 11));
        Check.refused(x, "no heap", -1, () -> x.move(0, 0, 0), () -> x.move(13, 0, 12), () -> x.move(-1, 0, 0),
                () -> x.move(Integer.MIN_VALUE, 0, 0), () -> x.move(Integer.MAX_VALUE, 0, 1));
        x.move(2, 0, 0);
        Check.refused(x, "gone from the hand", -1, () -> x.move(2, 0, 0), () -> x.move(2, 0, 1));
        x.clear();
        Check.refused(x, "of an empty hand", -1, () -> x.move(4, 0, 3));
        Check.due("the clearing is undone", x.undo(), 3);
        Check.due("the move is undone", x.undo(), 2);
        Check.heaps("hand", x::hand, 4, 2);
    }

    private static void withoutMove() {
        LastLoses x = Check.told(Check.KAYLES, 5, 12);
        x.keep(2);
        Check.refused(x, "nothing or too much taken", -1, () -> x.move(5, 0, 5), () -> x.move(5, 1, 4),
                () -> x.move(5, 0, 2), () -> x.move(5, 1, 1), () -> x.move(5, 0, 0), () -> x.move(12, 6, 6));
        Check.refused(x, "the greater part first", -1, () -> x.move(5, 3, 1), () -> x.move(5, 4, 0),
                () -> x.move(12, 6, 5));
        Check.refused(x, "below 0 or far", -1, () -> x.move(5, -1, 5), () -> x.move(5, -1, 4),
                () -> x.move(5, Integer.MIN_VALUE, Integer.MIN_VALUE), () -> x.move(5, 0, Integer.MAX_VALUE),
                () -> x.move(5, Integer.MAX_VALUE, Integer.MAX_VALUE), () -> x.move(5, 0, 13), () -> x.move(5, 0, -1));
        Check.due("the 12 is undone", x.undo(), 1);
        Check.heaps("hand", x::hand, 5);
    }

    private static void withoutMoveOfThatHeap() {
        LastLoses x = Check.told("octal .3;never 4 1;also 5 to 1 3", 4, 5, 5);
        Check.refused(x, "never told", -1, () -> x.move(4, 0, 3));
        // of 4 4 5 both moves lead to what wins: no move is left, or four are
        Check.due("of 5 by the code", x.move(5, 0, 4), 0);
        Check.due("of 5 by also", x.move(5, 1, 3), 1);
        Check.heaps("hand", x::hand, 1, 3, 4, 4);
    }

    private static void withoutGame() {
        LastLoses x = new LastLoses();
        Check.refused(x, "move", -1, () -> x.move(1, 0, 0), () -> x.move(0, 0, 0), () -> x.move(12, 0, 11));
    }
}
