/** Promise 15: undo. */
public final class Promise15Test {
    public static void main(String[] args) {
        Sentences of = Sentences.ofPromise(15, args);
        of.hold("The last ACT is UNDONE: how many more can be", Promise15Test::eachAct);
        of.hold("The last ACT is UNDONE: how many more can be", Promise15Test::actsBehindUndone);
        of.hold("The last ACT is UNDONE: how many more can be", Promise15Test::thirty);
        of.hold("The last ACT is UNDONE: how many more can be", Promise15Test::roundAndRound);
        of.hold("NONE, and nothing happens, if none can", Promise15Test::noneCan);
        of.hold("NONE, and nothing happens, if none can", Promise15Test::noneOfRefused);
        of.finish();
    }

    private static void eachAct() {
        LastLoses x = Check.told(Check.TWO, 2, 1);
        x.move(2, 0, 1);
        x.reply();
        x.clear();
        Check.due("the clearing", x.undo(), 4);
        Check.heaps("replied", x::hand, 1);
        Check.due("the reply", x.undo(), 3);
        Check.heaps("moved", x::hand, 1, 1);
        Check.due("the move", x.undo(), 2);
        Check.heaps("put", x::hand, 2, 1);
        Check.due("the second put", x.undo(), 1);
        Check.heaps("put first", x::hand, 2);
        Check.due("the first put", x.undo(), 0);
        Check.heaps("at first", x::hand);
    }

    private static void actsBehindUndone() {
        LastLoses x = Check.told(Check.TWO, 3, 4, 5);
        x.undo();
        x.undo();
        x.put(6);
        Check.due("acts", x.count(3), 2);
        Check.due("the 6", x.undo(), 1);
        Check.heaps("hand", x::hand, 3);
    }

    private static void thirty() {
        LastLoses x = Check.told(Check.TWO);
        for (int i = 1; i <= 15; i++) {
            x.put(1 + i % 12);
            x.clear();
        }
        Check.due("thirty", x.count(3), 30);
        Check.due("one more act", x.put(7), 7);
        Check.due("thirty still", x.count(3), 30);
        for (int left = 29; left >= 0; left--) {
            Check.due("left", x.undo(), left);
        }
        Check.heaps("what the first act put stays", x::hand, 2);
        Check.refused(x, "a thirty-first", -1, x::undo);
    }

    private static void roundAndRound() {
        LastLoses x = Check.told(Check.TWO);
        for (int i = 0; i < 70; i++) {
            x.put(1 + i % 12);
            x.clear();
        }
        for (int i = 0; i < 20; i++) {
            x.undo();
        }
        Check.due("ten are left", x.count(3), 10);
        for (int i = 0; i < 11; i++) {
            x.put(1);
        }
        Check.due("and eleven more", x.count(3), 21);
        for (int i = 0; i < 10; i++) {
            x.put(1);
        }
        Check.due("of 31 thirty", x.count(3), 30);
        for (int i = 0; i < 21; i++) {
            x.undo();
        }
        Check.due("nine are left", x.count(3), 9);
        // ten pairs of acts were undone, so the hand is as behind the sixtieth clearing
        Check.heaps("empty", x::hand);
        Check.due("that clearing", x.undo(), 8);
        Check.heaps("what the sixtieth put", x::hand, 1 + 59 % 12);
    }

    private static void noneCan() {
        LastLoses x = Check.told(Check.TWO);
        Check.refused(x, "at first", -1, x::undo);
        Check.put(x, 3);
        x.keep(1);
        x.undo();
        Check.refused(x, "all undone", -1, x::undo, x::undo);
        LastLoses none = new LastLoses();
        Check.refused(none, "without a game", -1, none::undo);
    }

    private static void noneOfRefused() {
        LastLoses x = Check.told(Check.TWO);
        x.put(13);
        x.move(1, 0, 0);
        x.reply();
        x.clear();
        x.keep(0);
        Check.refused(x, "refused calls are no acts, nor is keep", -1, x::undo);
    }
}
