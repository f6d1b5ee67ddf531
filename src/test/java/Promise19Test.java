/** Promise 19: line. */
public final class Promise19Test {
    public static void main(String[] args) {
        Sentences of = Sentences.ofPromise(19, args);
        of.hold("LINE, its k-th MOVE (0 the first): 1000 times the HEAP, 13 times A, and B", Promise19Test::first);
        of.hold("LINE, its k-th MOVE (0 the first): 1000 times the HEAP, 13 times A, and B", Promise19Test::longest);
        of.hold("LINE, its k-th MOVE (0 the first): 1000 times the HEAP, 13 times A, and B", Promise19Test::parts);
        of.hold("-2: it has not so many", Promise19Test::notSoMany);
        of.hold("-2: it has not so many", Promise19Test::handStays);
        of.hold("NONE for k below 0", Promise19Test::below0);
        of.hold("or without a GAME", Promise19Test::withoutGame);
        of.finish();
    }

    private static void first() {
        LastLoses x = Check.told(Check.TWO, 2, 2);
        Check.due("2 to 1", x.line(0), 2001);
        Check.due("2 to none", x.line(1), 2000);
        Check.due("1 to none", x.line(2), 1000);
        Check.due("no more", x.line(3), -2);
    }

    private static void longest() {
        LastLoses x = Check.told(Check.TAKE_ONE, 12, 10);
        Check.due("10 to 9", x.line(0), 10009);
        Check.due("1 to none", x.line(9), 1000);
        Check.due("12 to 11", x.line(10), 12011);
        Check.due("the last of 22", x.line(21), 1000);
        Check.due("no more", x.line(22), -2);
    }

    private static void parts() {
        LastLoses x = Check.told("octal .4", 12);
        // 12 to 2 and 9; the heap of 9 is all that can be moved then
        Check.due("to 2 and 9", x.line(0), 12000 + 13 * 2 + 9);
    }

    private static void notSoMany() {
        LastLoses empty = Check.told(Check.TWO);
        Check.due("of an empty hand", empty.line(0), -2);
        LastLoses stuck = Check.told(Check.NO_MOVES, 12);
        Check.due("of a hand without moves", stuck.line(0), -2);
        LastLoses one = Check.told(Check.TWO, 1);
        Check.due("the only one", one.line(0), 1000);
        Check.due("one behind it", one.line(1), -2);
        Check.due("far behind it", one.line(23), -2);
        Check.due("as far as can be", one.line(Integer.MAX_VALUE), -2);
    }

    private static void handStays() {
        LastLoses x = Check.told(Check.KAYLES, 5, 7);
        x.keep(0);
        Check.refused(x, "line far", -2, () -> x.line(22), () -> x.line(Integer.MAX_VALUE));
        Check.refused(x, "line", x.line(0), () -> x.line(0), () -> x.line(0));
    }

    private static void below0() {
        LastLoses x = Check.told(Check.TWO, 2);
        Check.none("line", x.line(-1), x.line(-2), x.line(Integer.MIN_VALUE));
        LastLoses empty = Check.told(Check.TWO);
        Check.none("line of an empty hand", empty.line(-1));
    }

    private static void withoutGame() {
        LastLoses x = new LastLoses();
        Check.none("line", x.line(0), x.line(1), x.line(-1), x.line(Integer.MAX_VALUE));
    }
}
