/** Promise 29: next. */
public final class Promise29Test {
    public static void main(String[] args) {
        Sentences of = Sentences.ofPromise(29, args);
        of.hold("NEXT of an ELEMENT and a HEAP", Promise29Test::nextOfEach);
        of.hold("-3: UNKNOWN", Promise29Test::unknown);
        of.hold("NONE without these", Promise29Test::withoutN);
        of.hold("NONE without these", Promise29Test::withoutHeap);
        of.hold("NONE without these", Promise29Test::withoutElement);
        of.hold("NONE without these", Promise29Test::withoutGame);
        of.finish();
    }

    private static void nextOfEach() {
        LastLoses x = Check.told(Check.KAYLES);
        int[][] next = {{1, 2, 3, 1, 4}, {0, 3, 2, 0, 5}, {3, 6, 7, 3, 8}, {2, 7, 6, 2, 9}, {5, 8, 9, 5, 0},
            {4, 9, 8, 4, 1}, {7, 2, 3, 7, 10}, {6, 3, 2, 6, 11}, {9, 10, 11, 9, 2}, {8, 11, 10, 8, 3},
            {11, 8, 9, 11, 6}, {10, 9, 8, 10, 7}};
        for (int e = 0; e < 12; e++) {
            for (int heap = 1; heap <= 5; heap++) {
                Check.due("of " + e + " and " + heap, x.next(5, e, heap), next[e][heap - 1]);
            }
        }
        Check.due("of quotient 1", x.next(1, 1, 1), 0);
    }

    private static void unknown() {
        LastLoses x = Quotients.unknown();
        Check.due("the least heap", x.next(Quotients.UNKNOWN, 0, 1), -3);
        Check.due("the greatest heap", x.next(Quotients.UNKNOWN, 0, 6), -3);
        Check.due("ahead of a wrong element", x.next(Quotients.UNKNOWN, 99, 1), -3);
        Check.due("ahead of one below 0", x.next(Quotients.UNKNOWN, -1, 1), -3);
        Check.none("but behind a wrong heap", x.next(Quotients.UNKNOWN, 0, 0), x.next(Quotients.UNKNOWN, 0, 7));
    }

    private static void withoutN() {
        LastLoses x = Check.told(Check.TWO);
        Check.outside("next n", n -> x.next(n, 0, 1), 0, 7);
    }

    private static void withoutHeap() {
        LastLoses x = Check.told(Check.TWO);
        Check.outside("next heap", heap -> x.next(2, 0, heap), 0, 3);
        Check.outside("next heap", heap -> x.next(6, 0, heap), 0, 7);
    }

    private static void withoutElement() {
        LastLoses x = Check.told(Check.TWO);
        Check.outside("next element", element -> x.next(2, element, 1), 6, 7);
        LastLoses most = Check.told(Quotients.SIXTEEN);
        Check.due("the last of sixteen by 1", most.next(6, 15, 1), 13);
        Check.due("the last of sixteen by 6", most.next(6, 15, 6), 4);
        Check.outside("next element of sixteen", element -> most.next(6, element, 6), 16, 17);
    }

    private static void withoutGame() {
        LastLoses x = new LastLoses();
        Check.none("next", x.next(1, 0, 1), x.next(6, 0, 6), x.next(0, 0, 0), x.next(7, 0, 7));
    }
}
