/** Promise 14: clear. */
public final class Promise14Test {
    public static void main(String[] args) {
        Sentences of = Sentences.ofPromise(14, args);
        of.hold("CLEAR: how many BEANS it had", Promise14Test::howMany);
        of.hold("CLEAR: how many BEANS it had", Promise14Test::isAnAct);
        of.hold("NONE, and nothing happens, if it is empty", Promise14Test::empty);
        of.hold("NONE, and nothing happens, if it is empty", Promise14Test::withoutGame);
        of.finish();
    }

    private static void howMany() {
        LastLoses x = Check.told(Check.TWO, 1);
        Check.due("one", x.clear(), 1);
        Check.put(x, 12, 10);
        Check.due("22", x.clear(), 22);
        Check.heaps("hand", x::hand);
        Check.due("22 can come again", x.put(12), 12);
    }

    private static void isAnAct() {
        LastLoses x = Check.told(Check.TWO, 3, 4);
        x.keep(1);
        x.clear();
        Check.due("acts", x.count(3), 3);
        Check.due("kept stays", x.count(4), 2);
        Check.due("undone", x.undo(), 2);
        Check.heaps("back", x::hand, 3, 4);
    }

    private static void empty() {
        LastLoses x = Check.told(Check.TWO);
        Check.refused(x, "at first", -1, x::clear);
        Check.put(x, 5);
        x.keep(0);
        x.clear();
        Check.refused(x, "cleared", -1, x::clear, x::clear);
        Check.due("the one act is undone", x.undo(), 1);
        Check.heaps("back", x::hand, 5);
        x.undo();
        Check.refused(x, "all undone", -1, x::clear);
        Check.put(x, 1);
        x.move(1, 0, 0);
        Check.refused(x, "moved to none", -1, x::clear);
    }

    private static void withoutGame() {
        LastLoses x = new LastLoses();
        Check.refused(x, "clear", -1, x::clear);
    }
}
