/** Promise 33: proved. */
public final class Promise33Test {
    public static void main(String[] args) {
        Sentences of = Sentences.ofPromise(33, args);
        of.hold("2 if it is PROVED", Promise33Test::isProved);
        of.hold("1 if it is not, but STEADY", Promise33Test::steadyAlone);
        of.hold("0 else", Promise33Test::notSteady);
        of.hold("-3: UNKNOWN", Promise33Test::unknown);
        of.hold("NONE without these", Promise33Test::withoutN);
        of.hold("NONE without these", Promise33Test::withoutGame);
        of.finish();
    }

    private static void isProved() {
        LastLoses none = Check.told(Check.NO_MOVES);
        LastLoses x = Check.told(Check.TWO);
        for (int n = 1; n <= 6; n++) {
            Check.due("without moves " + n, none.proved(n), 2);
            Check.due("two at most " + n, x.proved(n), 2);
        }
        Check.due("Kayles 5", Check.told(Check.KAYLES).proved(5), 2);
        Check.due("sixteen elements", Check.told(Quotients.SIXTEEN).proved(6), 2);
    }

    private static void steadyAlone() {
        LastLoses x = Check.told(Check.DAWSON);
        int[] proved = {2, 2, 2, 1, 1, 1};
        for (int n = 1; n <= 6; n++) {
            Check.due("Dawson's Kayles " + n, x.proved(n), proved[n - 1]);
        }
    }

    private static void notSteady() {
        LastLoses x = Check.told(Quotients.UNSTEADY);
        int[] proved = {2, 2, 2, 2, 0, 0};
        for (int n = 1; n <= 6; n++) {
            Check.due("not steady from 5 on, " + n, x.proved(n), proved[n - 1]);
        }
        // by a heap of 4 and another alone
        LastLoses last = Check.told("octal .37;never 3 2");
        Check.due("steady by 1 to 3", last.proved(3), 2);
        Check.due("not by 4", last.proved(4), 0);
    }

    private static void unknown() {
        Check.due("by a word of 16 beans", Check.told(Quotients.KAYLES).proved(6), -3);
        Check.due("by a seventeenth element", Check.told(Quotients.SEVENTEEN).proved(6), -3);
    }

    private static void withoutN() {
        LastLoses x = Check.told(Check.TWO);
        Check.outside("proved", x::proved, 0, 7);
    }

    private static void withoutGame() {
        LastLoses x = new LastLoses();
        Check.none("proved", x.proved(1), x.proved(6), x.proved(0), x.proved(7));
    }
}
