/** Promises 1 to 4 and 37: a new object, the tape, the text of a game and its faults. */
public final class TextPromisesTest {
    public static void main(String[] args) {
        newObject();
        tape();
        bytesInOrder();
        goodTexts();
        faults();
        seventeenthLine();
        gameReplaces();
        faultChangesNothing();
        counts();
        Check.finish("TextPromisesTest");
    }

    private static void newObject() {
        LastLoses x = new LastLoses();
        Check.due("NONE", LastLoses.NONE, -1);
        int[] without = {x.moves(1), x.option(1, 0, 0), x.nimber(1), x.period(0), x.odd(0), x.wild(0), x.put(1),
            x.move(1, 0, 0), x.reply(), x.clear(), x.undo(), x.state(0), x.genus(0), x.line(0), x.losers(0, -1),
            x.losers(0, 1), x.keep(0), x.apart(0, 0), x.simplest(0), x.answers(0), x.answers(-1), x.games(1, 0),
            x.elements(1), x.word(1, 0, 0), x.next(1, 0, 1), x.times(1, 0, 0), x.sets(1, 0), x.pairs(1), x.proved(1),
            x.stays(1), x.power(1, 0, 0), x.place(1)};
        for (int i = 0; i < without.length; i++) {
            Check.due("without a game, call " + i, without[i], -1);
        }
        Check.heaps("hand of a new object", x::hand);
        Check.due("hand(13)", x.hand(13), -1);
        Check.due("hand(-1)", x.hand(-1), -1);
        for (int what = 0; what <= 5; what++) {
            Check.due("count of a new object " + what, x.count(what), 0);
        }
        Check.due("draws of a new object", x.draws(7), 0);
    }

    private static void tape() {
        LastLoses x = new LastLoses();
        for (int i = 1; i <= 10; i++) {
            Check.due("feed " + i, x.feed(0, 0, 0, 0, 0), 20 * i);
        }
        Check.due("feed beyond", x.feed(0, 0, 0, 0, 0), -1);
        Check.due("tape stays", x.count(5), 200);
        Check.due("end beyond", x.end(201), -1);
        Check.due("end below 0", x.end(-1), -1);
        Check.due("end least", x.end(Integer.MIN_VALUE), -1);
        Check.due("end most", x.end(Integer.MAX_VALUE), -1);
        Check.due("end all", x.end(200), 200);
        Check.due("end 181", x.end(181), 181);
        Check.due("feed 19 left", x.feed(0, 0, 0, 0, 0), -1);
        Check.due("end 180", x.end(180), 180);
        Check.due("feed 20 left", x.feed(0, 0, 0, 0, 0), 200);
        Check.due("end 0", x.end(0), 0);
        Check.due("end 1 of none", x.end(1), -1);
        Check.due("count tape", x.count(5), 0);
    }

    private static void bytesInOrder() {
        LastLoses x = new LastLoses();
        // "octal .77", byte by byte the highest first, then what end cuts off
        x.feed(0x6f637461, 0x6c202e37, 0x37ffffff, -1, -1);
        Check.due("end behind the text", x.end(9), 9);
        Check.due("game of bytes", x.game(), 1);
        Check.due("tape is empty then", x.count(5), 0);
        Check.due("digits", x.count(0), 2);
        Check.tellGame(x, "octal .3");
        x.feed(0x6f637461, 0x6c202e37, 0x37ffffff, -1, -1);
        Check.due("a byte of 255 can't stand", x.game(), -2 - (8 * 9 + 1));
        Check.due("tape is empty after a fault", x.count(5), 0);
    }

    private static void lines(String text, int lines) {
        Check.due("'" + text + "'", Check.tellGame(new LastLoses(), text), lines);
    }

    private static void goodTexts() {
        lines("octal .0", 1);
        lines("octal .01234567", 1);
        lines("octal.3", 1);
        lines("  octal  .  3  ", 1);
        lines("octal.3;also3to1", 2);
        lines("octal.3;also 12 to 11;also 12 to 5 6;also 012 to 000 011", 4);
        lines("octal.3;also 1 to 0;also 1 to 0 0", 3);
        lines("octal.3 ; never 12 8 ; never 1 1 ", 3);
        lines("octal.3;never 001 008", 2);
        StringBuilder most = new StringBuilder("octal .3");
        for (int i = 0; i < 15; i++) {
            most.append(";also 1 to 0");
        }
        lines(most.toString(), 16);
    }

    private static void fault(String text, int place, int kind) {
        Check.due("fault of '" + text + "'", Check.tellGame(new LastLoses(), text), -2 - (8 * place + kind));
    }

    private static void faults() {
        fault("", 0, 1);
        fault("   ", 3, 1);
        fault("octal", 5, 1);
        fault("octal  ", 7, 1);
        fault("octal .", 7, 1);
        fault("octal . ", 8, 1);
        fault("octal 3", 6, 1);
        fault("octal .;", 7, 1);
        fault("octal ..3", 7, 1);
        fault("octa .3", 0, 1);
        fault("octalx .3", 0, 1);
        fault("  Octal .3", 2, 1);
        fault(".3", 0, 1);
        fault("\u00e9", 0, 1);
        fault("octal\t.3", 5, 1);
        fault("octal .8", 7, 3);
        fault("octal .39", 8, 3);
        fault("octal .123456701", 15, 3);
        fault("octal .123456709", 15, 3);
        fault("octal .3 3", 9, 1);
        fault("octal .3a", 8, 1);
        fault("octal .3,", 8, 1);
        fault("octal .3;", 9, 1);
        fault("octal .3;  ", 11, 1);
        fault("octal .3;;also 1 to 0", 9, 1);
        fault("also 3 to 1;octal .3", 0, 4);
        fault(" never 3 1", 1, 4);
        fault("alsoo 3 to 1", 0, 1);
        fault("octal .3; octal .3", 10, 4);
        fault("octal .3; octale .3", 10, 1);
        fault("octal .3;also 13 to 1", 14, 2);
        fault("octal .3;also 0 to 0", 14, 2);
        fault("octal .3;also 0003 to 0", 14, 2);
        fault("octal .3;also x to 0", 14, 1);
        fault("octal .3;also 3", 15, 1);
        fault("octal .3;also 3 two 1", 16, 1);
        fault("octal .3;also 3 t", 16, 1);
        fault("octal .3;also 3 1", 16, 1);
        fault("octal .3;also 3 to", 18, 1);
        fault("octal .3;also 3 to 3", 19, 2);
        fault("octal .3;also 3 to 1 2", 21, 2);
        fault("octal .3;also 3 to 2 0001", 21, 2);
        fault("octal .3;also 3 to 1 1 1", 23, 1);
        fault("octal .3;also 3 to 1 a", 21, 1);
        fault("octal .3;never 13 1", 15, 2);
        fault("octal .3;never 0 1", 15, 2);
        fault("octal .3;never 3 9", 17, 2);
        fault("octal .3;never 3 0", 17, 2);
        fault("octal .3;never 3 0001", 17, 2);
        fault("octal .3;never 3", 16, 1);
        fault("octal .3;never 31", 15, 2);
        fault("octal .3;never 3 to 1", 17, 1);
        fault("octal .3;never 3 1 1", 19, 1);
        fault("octal .3;never 999999999999999999999 1", 15, 2);
    }

    private static void seventeenthLine() {
        StringBuilder most = new StringBuilder("octal .3");
        for (int i = 0; i < 15; i++) {
            most.append(";also 1 to 0");
        }
        int begin = most.length() + 1;
        fault(most + ";also 1 to 0", begin, 4);
        fault(most + ";never 1 1", begin, 4);
        fault(most + ";octal .3", begin, 4);
        fault(most + "; also", begin + 1, 4);
        fault(most + ";other", begin, 1);
        fault(most + ";", begin, 1);
        fault(most + ";7", begin, 1);
    }

    private static void gameReplaces() {
        LastLoses x = Check.told("octal .77;also 3 to 0;never 2 2");
        x.draws(99);
        x.put(3);
        x.keep(1);
        Check.due("a second game", Check.tellGame(x, "octal .3"), 1);
        Check.heaps("hand is empty", x::hand);
        Check.due("nothing is undone", x.count(3), 0);
        Check.due("undo", x.undo(), -1);
        Check.due("nothing is kept", x.count(4), 0);
        Check.due("apart", x.apart(1, 0), -1);
        Check.due("x stays", x.count(2), 99);
        Check.due("digits", x.count(0), 1);
        Check.due("lines more", x.count(1), 0);
        Check.due("moves by the new code", x.moves(3), 1);
    }

    private static void faultChangesNothing() {
        LastLoses x = Check.told("octal .77;never 2 1");
        Check.put(x, 2, 3);
        x.keep(2);
        Check.due("a wrong text", Check.tellGame(x, "octal .3;also 2 to 2"), -2 - (8 * 19 + 2));
        Check.heaps("hand after a fault", x::hand, 2, 3);
        Check.due("acts", x.count(3), 2);
        Check.due("kept", x.count(4), 4);
        Check.due("digits", x.count(0), 2);
        Check.due("lines more", x.count(1), 1);
        Check.due("moves", x.moves(2), 1);
        LastLoses y = new LastLoses();
        Check.tellGame(y, "octal .9");
        Check.due("no game after a fault", y.moves(1), -1);
    }

    private static void counts() {
        LastLoses x = Check.told("octal .1230000;also 3 to 1;never 2 2;never 2 2");
        Check.due("digits, 0 too", x.count(0), 7);
        Check.due("also and never", x.count(1), 3);
        x.draws(2147483647);
        Check.due("x", x.count(2), 2147483647);
        x.put(1);
        x.put(2);
        x.clear();
        Check.due("acts", x.count(3), 3);
        x.keep(0);
        x.keep(2);
        Check.due("kept", x.count(4), 5);
        x.feed(1, 2, 3, 4, 5);
        x.end(3);
        Check.due("tape", x.count(5), 3);
        Check.due("count -1", x.count(-1), -1);
        Check.due("count 6", x.count(6), -1);
        Check.due("count most", x.count(Integer.MAX_VALUE), -1);
    }
}
