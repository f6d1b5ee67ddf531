/** Promise 21: keep. */
public final class Promise21Test {
    public static void main(String[] args) {
        Sentences of = Sentences.ofPromise(21, args);
        of.hold("It is KEPT under a number (0 to 2): its BEANS", Promise21Test::underEachNumber);
        of.hold("It is KEPT under a number (0 to 2): its BEANS", Promise21Test::emptyAndFull);
        of.hold("It is KEPT under a number (0 to 2): its BEANS", Promise21Test::underANumberAgain);
        of.hold("It is KEPT under a number (0 to 2): its BEANS", Promise21Test::staysAsItWas);
        of.hold("NONE, and nothing happens, without these", Promise21Test::withoutNumber);
        of.hold("or a GAME", Promise21Test::withoutGame);
        of.finish();
    }

    private static void underEachNumber() {
        LastLoses x = Check.told(Check.TWO, 5);
        Check.due("0", x.keep(0), 5);
        Check.due("bits", x.count(4), 1);
        x.put(1);
        Check.due("2", x.keep(2), 6);
        Check.due("bits", x.count(4), 5);
        Check.due("1", x.keep(1), 6);
        Check.due("bits", x.count(4), 7);
        Check.due("no acts", x.count(3), 2);
    }

    private static void emptyAndFull() {
        LastLoses x = Check.told(Check.TWO);
        Check.due("empty", x.keep(0), 0);
        Check.due("bits", x.count(4), 1);
        Check.put(x, 12, 10);
        Check.due("full", x.keep(1), 22);
        Check.due("bits", x.count(4), 3);
    }

    private static void underANumberAgain() {
        LastLoses x = Check.told(Check.NIM, 1);
        x.keep(0);
        x.put(2);
        Check.due("the same number", x.keep(0), 3);
        Check.due("bits", x.count(4), 1);
        Check.due("what was kept last", x.apart(0, 0), -2);
    }

    private static void staysAsItWas() {
        LastLoses x = Check.told(Check.NIM, 2, 2);
        x.keep(0);
        x.clear();
        Check.put(x, 1);
        Check.due("bits", x.count(4), 1);
        // 2 2 and 1 both lose; beside a heap of 1 just 1 wins, and 2 2 wins, too
        Check.heaps("told apart by 2 2", heap -> x.apart(0, heap), 2, 2);
        x.undo();
        x.undo();
        Check.due("the hand that was kept", x.apart(0, 0), -2);
    }

    private static void withoutNumber() {
        LastLoses x = Check.told(Check.TWO, 4);
        x.keep(1);
        x.put(2);
        Check.refused(x, "keep", -1, () -> x.keep(3), () -> x.keep(-1), () -> x.keep(4),
                () -> x.keep(Integer.MIN_VALUE), () -> x.keep(Integer.MAX_VALUE), () -> x.keep(32), () -> x.keep(33));
    }

    private static void withoutGame() {
        LastLoses x = new LastLoses();
        Check.refused(x, "keep", -1, () -> x.keep(0), () -> x.keep(1), () -> x.keep(2), () -> x.keep(3));
    }
}
