/** Promise 11: put. */
public final class Promise11Test {
    public static void main(String[] args) {
        Sentences of = Sentences.ofPromise(11, args);
        of.hold("PUT: how many BEANS then", Promise11Test::beansThen);
        of.hold("NONE, and nothing happens, without these (a HEAP of 1 to 12,", Promise11Test::withoutHeap);
        of.hold("at most 22 BEANS then", Promise11Test::atMost22);
        of.hold("at most 22 BEANS then", Promise11Test::atMost22HeapsOf1);
        of.hold("at most 22 BEANS then", Promise11Test::refusedIsNoAct);
        of.hold("a GAME", Promise11Test::withoutGame);
        of.finish();
    }

    private static void beansThen() {
        LastLoses x = Check.told(Check.TWO);
        Check.due("1", x.put(1), 1);
        Check.due("12 more", x.put(12), 13);
        Check.due("1 more", x.put(1), 14);
        Check.heaps("hand", x::hand, 1, 1, 12);
        Check.due("acts", x.count(3), 3);
    }

    private static void withoutHeap() {
        LastLoses x = Check.told(Check.TWO, 3, 2);
        x.keep(1);
        Check.refused(x, "put", -1, () -> x.put(0), () -> x.put(13), () -> x.put(-1), () -> x.put(22),
                () -> x.put(Integer.MIN_VALUE), () -> x.put(Integer.MAX_VALUE));
        Check.due("undone is what was put", x.undo(), 1);
        Check.heaps("hand", x::hand, 3);
    }

    private static void atMost22() {
        LastLoses x = Check.told(Check.TWO, 12);
        Check.refused(x, "23", -1, () -> x.put(11), () -> x.put(12));
        Check.due("22", x.put(10), 22);
        Check.refused(x, "full", -1, () -> x.put(1), () -> x.put(12));
        x.undo();
        Check.due("21", x.put(9), 21);
        Check.refused(x, "23 again", -1, () -> x.put(2));
        Check.due("just 22", x.put(1), 22);
        Check.heaps("hand", x::hand, 12, 9, 1);
    }

    private static void atMost22HeapsOf1() {
        LastLoses x = Check.told(Check.TAKE_ONE);
        for (int i = 1; i <= 22; i++) {
            Check.due("heap " + i, x.put(1), i);
        }
        Check.due("heap 23", x.put(1), -1);
        Check.due("heaps of 1", x.hand(1), 22);
        x.move(1, 0, 0);
        Check.due("one has gone, so one can come", x.put(1), 22);
    }

    private static void refusedIsNoAct() {
        LastLoses x = Check.told(Check.TWO, 12, 5);
        Check.due("too many", x.put(6), -1);
        Check.due("two acts", x.count(3), 2);
        Check.due("the 5 is undone", x.undo(), 1);
        Check.heaps("hand", x::hand, 12);
    }

    private static void withoutGame() {
        LastLoses x = new LastLoses();
        Check.refused(x, "put", -1, () -> x.put(1), () -> x.put(12), () -> x.put(0));
        Check.tellGame(x, Check.TWO);
        Check.due("the hand of the game is empty", x.put(1), 1);
    }
}
