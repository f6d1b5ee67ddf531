/** Promise 20: losers. */
public final class Promise20Test {
    public static void main(String[] args) {
        Sentences of = Sentences.ofPromise(20, args);
        of.hold("LOSERS (BEANS 0 to 22) heap NONE: how many", Promise20Test::howMany);
        of.hold("LOSERS (BEANS 0 to 22) heap NONE: how many", Promise20Test::ofNoBeans);
        of.hold("LOSERS (BEANS 0 to 22) heap NONE: how many", Promise20Test::of22Beans);
        of.hold("1 to 12: how many HEAPS of that size the first one has", Promise20Test::firstOne);
        of.hold("(-2: there is none)", Promise20Test::thereIsNone);
        of.hold("NONE without these", Promise20Test::withoutBeans);
        of.hold("NONE without these", Promise20Test::withoutHeap);
        of.hold("or a GAME", Promise20Test::withoutGame);
        of.finish();
    }

    private static void howMany() {
        LastLoses x = Check.told(Check.TAKE_ONE);
        // of an odd number all lose: the ways to part it into heaps of at most 12
        int[] ways = {0, 1, 0, 3, 0, 7, 0, 15, 0, 30, 0, 56, 0, 100, 0, 172, 0, 285, 0, 460, 0, 725, 0};
        for (int beans = 0; beans <= 22; beans++) {
            Check.due(beans + " beans", x.losers(beans, -1), ways[beans]);
        }
    }

    private static void ofNoBeans() {
        LastLoses x = Check.told(Check.NIM);
        Check.due("how many", x.losers(0, -1), 0);
        Check.due("first", x.losers(0, 1), -2);
    }

    private static void of22Beans() {
        LastLoses x = Check.told(Check.NIM, 5);
        Check.due("how many", x.losers(22, -1), 142);
        Check.due("first has two of 11", x.losers(22, 11), 2);
        Check.due("and none of 10", x.losers(22, 10), 0);
        Check.due("nor of 12", x.losers(22, 12), 0);
        Check.heaps("the hand stays", x::hand, 5);
    }

    private static void firstOne() {
        LastLoses x = Check.told(Check.TWO);
        Check.due("of 1 bean a heap of 1", x.losers(1, 1), 1);
        Check.due("and none of 12", x.losers(1, 12), 0);
        // 4 alone, ahead of 2 2 and of 1 3
        Check.due("of 4 beans a heap of 4", x.losers(4, 4), 1);
        Check.due("and none of 2", x.losers(4, 2), 0);
        Check.due("of 3 beans three heaps of 1", x.losers(3, 1), 3);
        LastLoses one = Check.told(Check.TAKE_ONE);
        // 10 11, ahead of 9 12
        Check.due("of 21 beans one of 10", one.losers(21, 10), 1);
        Check.due("of 21 beans one of 11", one.losers(21, 11), 1);
        Check.due("of 21 beans none of 12", one.losers(21, 12), 0);
        Check.due("of 11 beans one of 11", one.losers(11, 11), 1);
    }

    private static void thereIsNone() {
        LastLoses x = Check.told(Check.NO_MOVES);
        for (int beans = 0; beans <= 22; beans++) {
            Check.due(beans + " beans", x.losers(beans, -1), 0);
            Check.due(beans + " beans, heaps of 1", x.losers(beans, 1), -2);
            Check.due(beans + " beans, heaps of 12", x.losers(beans, 12), -2);
        }
    }

    private static void withoutBeans() {
        LastLoses x = Check.told(Check.TAKE_ONE);
        Check.outside("beans, how many", beans -> x.losers(beans, -1), 23, 24);
        Check.outside("beans, first", beans -> x.losers(beans, 1), 23, 24);
    }

    private static void withoutHeap() {
        LastLoses x = Check.told(Check.TAKE_ONE);
        for (int heap : new int[] {0, 13, -2, Integer.MIN_VALUE, Integer.MAX_VALUE}) {
            Check.due("heap " + heap, x.losers(5, heap), -1);
            Check.due("heap " + heap + " where there is none", x.losers(4, heap), -1);
        }
    }

    private static void withoutGame() {
        LastLoses x = new LastLoses();
        Check.none("losers", x.losers(0, -1), x.losers(1, 1), x.losers(22, 12), x.losers(23, -1));
    }
}
