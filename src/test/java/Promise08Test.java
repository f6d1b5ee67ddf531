/** Promise 8: period. */
public final class Promise08Test {
    public static void main(String[] args) {
        Sentences of = Sentences.ofPromise(8, args);
        of.hold("PERIOD what 0: p, 1: e", Promise08Test::bothNumbers);
        of.hold("-2: there is none", Promise08Test::noneSoFar);
        of.hold("-3: also or never was told", Promise08Test::alsoOrNever);
        of.hold("-3: also or never was told", Promise08Test::notOfTheGameBefore);
        of.hold("NONE for others", Promise08Test::others);
        of.hold("or without a GAME", Promise08Test::withoutGame);
        of.finish();
    }

    static void period(String text, int p, int e) {
        LastLoses x = Check.told(text);
        Check.due(text + " p", x.period(0), p);
        Check.due(text + " e", x.period(1), e);
    }

    private static void bothNumbers() {
        period(Check.NO_MOVES, 1, 1);
        period("octal .1", 1, 2);
        period(Check.TAKE_ONE, 2, 1);
        period(Check.NIM, 9, 1);
        period("octal .00000001", 1, 9);
    }

    private static void noneSoFar() {
        // twelve, but from 71 on
        period(Check.KAYLES, -2, -2);
        // thirty-four, but from 53 on
        period(Check.DAWSON, -2, -2);
        // 2 * 52 + 2 * 26 + 5 would be 161
        period("octal .11633", -2, -2);
    }

    private static void alsoOrNever() {
        period("octal .3;also 1 to 0", -3, -3);
        period("octal .3;never 12 8", -3, -3);
        period("octal .77;also 5 to 4;never 5 1", -3, -3);
    }

    private static void notOfTheGameBefore() {
        LastLoses x = Check.told("octal .3;also 2 to 0");
        Check.due("also", x.period(0), -3);
        Check.tellGame(x, Check.TWO);
        Check.due("p", x.period(0), 3);
        Check.due("e", x.period(1), 1);
        Check.tellGame(x, "octal .33;never 2 2");
        Check.due("never", x.period(1), -3);
    }

    private static void others() {
        LastLoses x = Check.told(Check.TWO);
        Check.outside("period", x::period, 2, 3);
        LastLoses none = Check.told(Check.KAYLES);
        Check.outside("period where there is none", none::period, 2);
        LastLoses also = Check.told("octal .3;also 2 to 0");
        Check.outside("period where also was told", also::period, 2);
    }

    private static void withoutGame() {
        LastLoses x = new LastLoses();
        Check.none("period", x.period(0), x.period(1), x.period(2));
    }
}
