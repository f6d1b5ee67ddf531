/** Promise 6: option. */
public final class Promise06Test {
    public static void main(String[] args) {
        Sentences of = Sentences.ofPromise(6, args);
        of.hold("Of the k-th (0 the first) MOVE of a HEAP", Promise06Test::firstAndLast);
        of.hold("Of the k-th (0 the first) MOVE of a HEAP", Promise06Test::greatestHeap);
        of.hold("what 0: A, 1: B", Promise06Test::bothParts);
        of.hold("NONE without these", Promise06Test::withoutSuchMove);
        of.hold("NONE without these", Promise06Test::withoutHeap);
        of.hold("NONE without these", Promise06Test::withoutPart);
        of.hold("NONE without these", Promise06Test::withoutGame);
        of.finish();
    }

    private static void move(LastLoses x, int heap, int k, int a, int b) {
        Check.due("A of move " + k + " of " + heap, x.option(heap, k, 0), a);
        Check.due("B of move " + k + " of " + heap, x.option(heap, k, 1), b);
    }

    private static void firstAndLast() {
        LastLoses x = Check.told(Check.KAYLES);
        move(x, 1, 0, 0, 0);
        move(x, 2, 0, 0, 1);
        move(x, 2, 1, 0, 0);
        move(x, 5, 0, 0, 4);
        move(x, 5, 4, 1, 2);
        Check.none("behind the last", x.option(1, 1, 0), x.option(2, 2, 1), x.option(5, 5, 0));
    }

    private static void greatestHeap() {
        LastLoses x = Check.told(Promise05Test.ALL_MOVES);
        move(x, 12, 0, 0, 11);
        move(x, 12, 1, 1, 10);
        move(x, 12, 5, 5, 6);
        move(x, 12, 6, 0, 10);
        move(x, 12, 11, 5, 5);
        move(x, 12, 39, 1, 1);
        move(x, 12, 40, 0, 1);
        move(x, 12, 41, 0, 0);
        Check.due("no 42", x.option(12, 42, 0), -1);
    }

    private static void bothParts() {
        LastLoses x = Check.told("octal .4");
        move(x, 3, 0, 1, 1);
        move(x, 12, 0, 1, 10);
        move(x, 12, 4, 5, 6);
    }

    private static void withoutSuchMove() {
        LastLoses x = Check.told(Check.TWO);
        Check.outside("option k", k -> x.option(12, k, 0), 2, 3);
        Check.outside("option k", k -> x.option(1, k, 1), 1, 2);
        LastLoses none = Check.told(Check.NO_MOVES);
        Check.outside("option k of no moves", k -> none.option(12, k, 0), 0, 1);
    }

    private static void withoutHeap() {
        LastLoses x = Check.told(Check.TWO);
        Check.outside("option heap", heap -> x.option(heap, 0, 0), 0, 13);
        Check.outside("option heap", heap -> x.option(heap, 0, 1), 0, 13);
    }

    private static void withoutPart() {
        LastLoses x = Check.told(Check.TWO);
        Check.outside("option what", what -> x.option(12, 0, what), 2, 3);
    }

    private static void withoutGame() {
        LastLoses x = new LastLoses();
        Check.none("option", x.option(1, 0, 0), x.option(1, 0, 1), x.option(12, 0, 0), x.option(0, 0, 0));
    }
}
