/** Promise 34: stays. */
public final class Promise34Test {
    public static void main(String[] args) {
        Sentences of = Sentences.ofPromise(34, args);
        of.hold("STAYS", Promise34Test::toSix);
        of.hold("STAYS", Promise34Test::upToTheUnknown);
        of.hold("STAYS", Promise34Test::notAtAll);
        of.hold("-3: QUOTIENT n is UNKNOWN", Promise34Test::unknown);
        of.hold("NONE without these", Promise34Test::withoutN);
        of.hold("NONE without these", Promise34Test::withoutGame);
        of.finish();
    }

    static void stays(String game, int... want) {
        LastLoses x = Check.told(game);
        for (int n = 1; n <= 6; n++) {
            Check.due(game + " stays " + n, x.stays(n), want[n - 1]);
        }
    }

    private static void toSix() {
        stays(Check.NO_MOVES, 6, 6, 6, 6, 6, 6);
        stays(Check.TAKE_ONE, 6, 6, 6, 6, 6, 6);
        stays(Check.TWO, 1, 6, 6, 6, 6, 6);
    }

    private static void upToTheUnknown() {
        stays(Check.KAYLES, 1, 4, 4, 4, 5, -3);
        stays(Quotients.SEVENTEEN, 1, 2, 3, 5, 5, -3);
        // unknown of 5, but not of 6
        stays("octal .7101", 1, 4, 4, 4, -3, 6);
    }

    private static void notAtAll() {
        stays(Quotients.SIXTEEN, 1, 4, 4, 4, 5, 6);
        // 1, 1, 2, 2, 4, 4 elements, of which one and the same is lost
        stays("octal .4", 2, 2, 4, 4, 6, 6);
        stays("octal .31", 1, 2, 3, 6, 6, 6);
    }

    private static void unknown() {
        Check.due("by a word of 16 beans", Check.told(Quotients.KAYLES).stays(6), -3);
        Check.due("by a seventeenth element", Check.told(Quotients.SEVENTEEN).stays(6), -3);
    }

    private static void withoutN() {
        LastLoses x = Check.told(Check.TWO);
        Check.outside("stays", x::stays, 0, 7);
    }

    private static void withoutGame() {
        LastLoses x = new LastLoses();
        Check.none("stays", x.stays(1), x.stays(6), x.stays(0), x.stays(7));
    }
}
