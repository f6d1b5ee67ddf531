/** Promise 27: elements. */
public final class Promise27Test {
    public static void main(String[] args) {
        Sentences of = Sentences.ofPromise(27, args);
        of.hold("QUOTIENT n: how many ELEMENTS", Promise27Test::howMany);
        of.hold("QUOTIENT n: how many ELEMENTS", Promise27Test::oneToSixteen);
        of.hold("-3: UNKNOWN", Promise27Test::unknown);
        of.hold("NONE without these", Promise27Test::withoutN);
        of.hold("or a GAME", Promise27Test::withoutGame);
        of.finish();
    }

    private static void howMany() {
        LastLoses x = Check.told(Check.KAYLES);
        int[] elements = {2, 6, 6, 6, 12, -3};
        for (int n = 6; n >= 1; n--) {
            Check.due("Kayles " + n, x.elements(n), elements[n - 1]);
        }
        for (int n = 1; n <= 6; n++) {
            Check.due("Kayles again " + n, x.elements(n), elements[n - 1]);
        }
    }

    private static void oneToSixteen() {
        LastLoses none = Check.told(Check.NO_MOVES);
        LastLoses most = Check.told(Quotients.SIXTEEN);
        int[] elements = {2, 6, 6, 6, 14, 16};
        for (int n = 1; n <= 6; n++) {
            Check.due("without moves " + n, none.elements(n), 1);
            Check.due("up to sixteen " + n, most.elements(n), elements[n - 1]);
        }
    }

    private static void unknown() {
        Check.due("for a word of 16 beans", Check.told(Quotients.KAYLES).elements(6), -3);
        Check.due("for a seventeenth element", Check.told(Quotients.SEVENTEEN).elements(6), -3);
        Check.due("but known of fewer heaps", Check.told(Quotients.SEVENTEEN).elements(5), 14);
    }

    private static void withoutN() {
        LastLoses x = Check.told(Check.TWO);
        Check.outside("elements", x::elements, 0, 7);
    }

    private static void withoutGame() {
        LastLoses x = new LastLoses();
        for (int n = 0; n <= 7; n++) {
            Check.due("elements of " + n, x.elements(n), -1);
        }
    }
}
