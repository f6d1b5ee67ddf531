/** Promise 30: times. */
public final class Promise30Test {
    public static void main(String[] args) {
        Sentences of = Sentences.ofPromise(30, args);
        of.hold("TIMES of two ELEMENTS", Promise30Test::byTheEmptyWord);
        of.hold("TIMES of two ELEMENTS", Promise30Test::firstAndLast);
        of.hold("-3: UNKNOWN", Promise30Test::unknown);
        of.hold("NONE without these", Promise30Test::withoutN);
        of.hold("NONE without these", Promise30Test::withoutOne);
        of.hold("NONE without these", Promise30Test::withoutOther);
        of.hold("NONE without these", Promise30Test::withoutGame);
        of.finish();
    }

    private static void byTheEmptyWord() {
        LastLoses x = Check.told(Quotients.SIXTEEN);
        for (int e = 0; e < 16; e++) {
            Check.due(e + " times 0", x.times(6, e, 0), e);
            Check.due("0 times " + e, x.times(6, 0, e), e);
        }
    }

    private static void firstAndLast() {
        LastLoses x = Check.told(Check.KAYLES);
        // 2 3 5 twice is 2 2
        Check.due("11 times 11", x.times(5, 11, 11), 6);
        Check.due("11 times 1", x.times(5, 11, 1), 10);
        Check.due("1 times 11", x.times(5, 1, 11), 10);
        Check.due("of quotient 1", x.times(1, 1, 1), 0);
    }

    private static void unknown() {
        LastLoses x = Quotients.unknown();
        Check.due("of two", x.times(Quotients.UNKNOWN, 0, 0), -3);
        Check.due("ahead of a wrong one", x.times(Quotients.UNKNOWN, 99, 0), -3);
        Check.due("ahead of a wrong other", x.times(Quotients.UNKNOWN, 0, -1), -3);
    }

    private static void withoutN() {
        LastLoses x = Check.told(Check.TWO);
        Check.outside("times n", n -> x.times(n, 0, 0), 0, 7);
    }

    private static void withoutOne() {
        LastLoses x = Check.told(Check.TWO);
        Check.outside("times one", one -> x.times(2, one, 0), 6, 7);
        LastLoses most = Check.told(Quotients.SIXTEEN);
        Check.outside("times one of sixteen", one -> most.times(6, one, 15), 16);
    }

    private static void withoutOther() {
        LastLoses x = Check.told(Check.TWO);
        Check.outside("times other", other -> x.times(2, 0, other), 6, 7);
        LastLoses most = Check.told(Quotients.SIXTEEN);
        Check.outside("times other of sixteen", other -> most.times(6, 15, other), 16);
    }

    private static void withoutGame() {
        LastLoses x = new LastLoses();
        Check.none("times", x.times(1, 0, 0), x.times(6, 0, 0), x.times(0, 0, 0), x.times(7, 0, 0));
    }
}
