/** Promise 28: word. */
public final class Promise28Test {
    public static void main(String[] args) {
        Sentences of = Sentences.ofPromise(28, args);
        of.hold("How many HEAPS of one size (1 to n) the WORD of an ELEMENT has, heap 0: its BEANS", Promise28Test::words);
        of.hold("-3: UNKNOWN", Promise28Test::unknown);
        of.hold("NONE without these", Promise28Test::withoutN);
        of.hold("NONE without these", Promise28Test::withoutHeap);
        of.hold("NONE without these", Promise28Test::withoutElement);
        of.hold("NONE without these", Promise28Test::withoutGame);
        of.finish();
    }

    private static void word(LastLoses x, int n, int element, int... heaps) {
        int beans = 0;
        int[] counts = new int[7];
        for (int heap : heaps) {
            beans += heap;
            counts[heap]++;
        }
        Check.due("beans of " + element, x.word(n, element, 0), beans);
        for (int heap = 1; heap <= n; heap++) {
            Check.due("heaps of " + heap + " of " + element, x.word(n, element, heap), counts[heap]);
        }
    }

    private static void words() {
        LastLoses x = Check.told(Check.KAYLES);
        word(x, 1, 0);
        word(x, 1, 1, 1);
        word(x, 5, 0);
        word(x, 5, 6, 2, 2);
        word(x, 5, 11, 2, 3, 5);
        LastLoses most = Check.told(Quotients.SIXTEEN);
        word(most, 6, 6, 6);
        word(most, 6, 15, 3, 5);
    }

    private static void unknown() {
        LastLoses x = Quotients.unknown();
        for (int heap = 0; heap <= 6; heap++) {
            Check.due("heap " + heap, x.word(Quotients.UNKNOWN, 0, heap), -3);
        }
        Check.due("ahead of a wrong element", x.word(Quotients.UNKNOWN, 99, 0), -3);
        Check.due("ahead of one below 0", x.word(Quotients.UNKNOWN, -1, 6), -3);
        Check.none("but behind a wrong heap", x.word(Quotients.UNKNOWN, 0, 7), x.word(Quotients.UNKNOWN, 0, -1));
    }

    private static void withoutN() {
        LastLoses x = Check.told(Check.TWO);
        Check.outside("word n", n -> x.word(n, 0, 0), 0, 7);
    }

    private static void withoutHeap() {
        LastLoses x = Check.told(Check.TWO);
        Check.outside("word heap", heap -> x.word(2, 0, heap), 3, 12);
        Check.outside("word heap", heap -> x.word(6, 0, heap), 7, 12);
        Check.outside("word heap of a wrong element", heap -> x.word(2, 6, heap), 3);
    }

    private static void withoutElement() {
        LastLoses x = Check.told(Check.TWO);
        Check.outside("word element", element -> x.word(2, element, 0), 6, 7);
        LastLoses most = Check.told(Quotients.SIXTEEN);
        Check.outside("word element of sixteen", element -> most.word(6, element, 1), 16, 17);
    }

    private static void withoutGame() {
        LastLoses x = new LastLoses();
        Check.none("word", x.word(1, 0, 0), x.word(6, 0, 1), x.word(0, 0, 0), x.word(7, 0, 0));
    }
}
