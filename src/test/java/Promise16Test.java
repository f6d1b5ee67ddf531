/** Promise 16: hand. */
public final class Promise16Test {
    public static void main(String[] args) {
        Sentences of = Sentences.ofPromise(16, args);
        of.hold("How many HEAPS of one size (1 to 12) the HAND has, heap 0: its BEANS", Promise16Test::full);
        of.hold("How many HEAPS of one size (1 to 12) the HAND has, heap 0: its BEANS", Promise16Test::empty);
        of.hold("NONE for others", Promise16Test::others);
        of.finish();
    }

    private static void full() {
        LastLoses ones = Check.told(Check.TWO, 1, 1, 1, 1, 1, 1, 1, 1, 1, 1, 1, 1, 1, 1, 1, 1, 1, 1, 1, 1, 1, 1);
        Check.due("of 22 heaps", ones.hand(1), 22);
        Check.due("of 22 beans", ones.hand(0), 22);
        LastLoses great = Check.told(Check.TWO, 12, 10);
        Check.heaps("12 and 10", great::hand, 12, 10);
        LastLoses many = Check.told(Check.TWO, 6, 1, 3, 5, 4, 2, 1);
        Check.heaps("one of each", many::hand, 1, 1, 2, 3, 4, 5, 6);
    }

    private static void empty() {
        LastLoses x = Check.told(Check.TWO);
        Check.heaps("at first", x::hand);
        LastLoses none = new LastLoses();
        Check.heaps("without a game", none::hand);
    }

    private static void others() {
        LastLoses x = Check.told(Check.TWO, 12, 10);
        Check.outside("hand", x::hand, 13, -2);
        LastLoses none = new LastLoses();
        Check.outside("hand without a game", none::hand, 13, -2);
    }
}
