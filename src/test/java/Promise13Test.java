/** Promise 13: reply. */
public final class Promise13Test {
    public static void main(String[] args) {
        Sentences of = Sentences.ofPromise(13, args);
        of.hold("REPLY: 1000 times the HEAP, 13 times A, and B", Promise13Test::code);
        of.hold("REPLY: 1000 times the HEAP, 13 times A, and B", Promise13Test::isAnAct);
        of.hold("-2, and nothing happens: there is none", Promise13Test::thereIsNone);
        of.hold("NONE without a GAME", Promise13Test::withoutGame);
        of.finish();
    }

    private static void code() {
        LastLoses least = Check.told(Check.TAKE_ONE, 1, 1);
        Check.due("1 to none", least.reply(), 1000);
        LastLoses parts = Check.told("octal .4", 12);
        Check.due("12 to 2 and 9", parts.reply(), 12000 + 13 * 2 + 9);
        Check.heaps("hand", parts::hand, 2, 9);
        LastLoses middle = Check.told("octal .4", 5, 12);
        Check.due("12 to 4 and 7, ahead of 5 and 6", middle.reply(), 12000 + 13 * 4 + 7);
        LastLoses both = Check.told("octal .4", 12, 10);
        Check.due("of 10 ahead of 12", both.reply(), 10000 + 13 * 2 + 7);
        Check.heaps("hand of both", both::hand, 2, 7, 12);
    }

    private static void isAnAct() {
        LastLoses x = Check.told(Check.TWO, 2, 2, 2);
        Check.due("2 to none", x.reply(), 2000);
        Check.heaps("hand", x::hand, 2, 2);
        Check.due("acts", x.count(3), 4);
        Check.due("undone", x.undo(), 3);
        Check.heaps("back", x::hand, 2, 2, 2);
    }

    private static void thereIsNone() {
        LastLoses x = Check.told(Check.TWO);
        Check.refused(x, "an empty hand", -2, x::reply);
        Check.put(x, 1);
        x.keep(0);
        Check.refused(x, "a hand that loses", -2, x::reply, x::reply);
        Check.due("what was put is undone", x.undo(), 0);
        LastLoses stuck = Check.told(Check.NO_MOVES, 12, 10);
        Check.refused(stuck, "a hand without moves, which wins", -2, stuck::reply);
    }

    private static void withoutGame() {
        LastLoses x = new LastLoses();
        Check.refused(x, "reply", -1, x::reply);
    }
}
