/** Promise 32: pairs. That they can be more than 2000 no game was found to show: see NOTES.md. */
public final class Promise32Test {
    public static void main(String[] args) {
        Sentences of = Sentences.ofPromise(32, args);
        of.hold("How many PAIRS", Promise32Test::least);
        of.hold("How many PAIRS", Promise32Test::some);
        of.hold("How many PAIRS; -2: they are UNKNOWN", Promise32Test::asManyAsWereFound);
        of.hold("-3: the QUOTIENT is", Promise32Test::unknown);
        of.hold("NONE without these", Promise32Test::withoutN);
        of.hold("NONE without these", Promise32Test::withoutGame);
        of.finish();
    }

    private static void least() {
        LastLoses none = Check.told(Check.NO_MOVES);
        LastLoses one = Check.told(Check.TAKE_ONE);
        for (int n = 1; n <= 6; n++) {
            Check.due("0 and none alone, of " + n, none.pairs(n), 1);
            Check.due("of " + n, one.pairs(n), 3);
        }
    }

    private static void some() {
        LastLoses x = Check.told(Check.KAYLES);
        int[] pairs = {3, 12, 12, 16, 48, -3};
        for (int n = 1; n <= 6; n++) {
            Check.due("Kayles " + n, x.pairs(n), pairs[n - 1]);
        }
        Check.due("sixteen elements", Check.told(Quotients.SIXTEEN).pairs(6), 70);
        Check.due("not steady", Check.told(Quotients.UNSTEADY).pairs(6), 75);
    }

    private static void asManyAsWereFound() {
        LastLoses x = Check.told("octal.374300;never3 2;also4to1 2;never6 2;never5 3;never5 5;also6to4 1;also4to2"
                + ";also6to3 2;never4 2;also5to0 2;also1to0;also1to0;also2to1;never4 2");
        Check.due("pairs", x.pairs(6), 739);
        Check.due("again", x.pairs(6), 739);
        Check.due("elements", x.elements(6), 14);
        Check.due("of fewer heaps", x.pairs(1), 3);
        Check.due("and again", x.pairs(6), 739);
    }

    private static void unknown() {
        Check.due("by a word of 16 beans", Check.told(Quotients.KAYLES).pairs(6), -3);
        Check.due("by a seventeenth element", Check.told(Quotients.SEVENTEEN).pairs(6), -3);
    }

    private static void withoutN() {
        LastLoses x = Check.told(Check.TWO);
        Check.outside("pairs", x::pairs, 0, 7);
    }

    private static void withoutGame() {
        LastLoses x = new LastLoses();
        Check.none("pairs", x.pairs(1), x.pairs(6), x.pairs(0), x.pairs(7));
    }
}
