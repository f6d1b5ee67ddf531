/** Promise 4: game. */
public final class Promise04Test {
    public static void main(String[] args) {
        Sentences of = Sentences.ofPromise(4, args);
        of.hold("The TAPE, which is empty then,", Promise04Test::tapeIsEmptyThen);
        of.hold("tells the GAME in place of the one there was", Promise04Test::inPlace);
        of.hold("tells the GAME in place of the one there was", Promise04Test::nothingFoundIsLeft);
        of.hold("tells the GAME in place of the one there was", Promise04Test::periodsAnew);
        of.hold("(the HAND is empty, nothing is KEPT, nothing can be UNDONE; x stays)", Promise04Test::handIsEmpty);
        of.hold("(the HAND is empty, nothing is KEPT, nothing can be UNDONE; x stays)", Promise04Test::sameGameAgain);
        of.hold("how many LINES", Promise04Test::howManyLines);
        of.hold("-2 - its FAULT", Promise04Test::fault);
        of.hold("and but for the TAPE nothing happens", Promise04Test::nothingHappens);
        of.hold("and but for the TAPE nothing happens", Promise04Test::lateFault);
        of.hold("and but for the TAPE nothing happens", Promise04Test::faultOfTheFirst);
        of.finish();
    }

    private static void tapeIsEmptyThen() {
        LastLoses x = new LastLoses();
        Check.due("a game", Check.tellGame(x, Check.TWO), 1);
        Check.due("empty", x.count(5), 0);
        Check.due("a fault", Check.tellGame(x, "octal"), -2 - (8 * 5 + 1));
        Check.due("empty, too", x.count(5), 0);
        Check.due("the next text begins at 0", Check.tellGame(x, Check.TWO), 1);
    }

    private static void inPlace() {
        LastLoses x = Check.told("octal .77;also 3 to 0;never 2 1");
        Check.due("also told", x.moves(3), 4);
        Check.due("never told", x.moves(2), 1);
        Check.due("another", Check.tellGame(x, Check.TAKE_ONE), 1);
        Check.due("digits", x.count(0), 1);
        Check.due("lines more", x.count(1), 0);
        Check.due("no also of the old one", x.moves(3), 1);
        Check.due("no never of the old one", x.option(2, 0, 1), 1);
        Check.due("a period", x.period(0), 2);
        Check.due("an end of it", x.period(1), 1);
    }

    private static void nothingFoundIsLeft() {
        LastLoses x = Check.told(Check.KAYLES, 5);
        Check.due("Kayles odd", x.odd(0), 6);
        Check.due("Kayles wild", x.wild(0), 5);
        Check.due("Kayles genus", x.genus(1), 4);
        Check.due("Kayles elements", x.elements(5), 12);
        Check.due("Kayles proved", x.proved(5), 2);
        Check.due("Kayles period", x.period(0), -2);
        Check.due("Kayles line", x.line(0), 5004);
        Check.tellGame(x, Check.TAKE_ONE);
        x.put(5);
        Check.due("odd", x.odd(0), -2);
        Check.due("wild", x.wild(0), -2);
        Check.due("genus", x.genus(1), 3);
        Check.due("elements", x.elements(5), 2);
        Check.due("pairs", x.pairs(5), 3);
        Check.due("period", x.period(0), 2);
        Check.due("loses", x.state(0), 0);
        Check.due("simplest", x.simplest(0), 1);
        Check.due("losers", x.losers(4, -1), 0);
    }

    private static void periodsAnew() {
        LastLoses x = Check.told(Check.NIM);
        Check.due("nine", x.period(0), 9);
        Check.tellGame(x, Check.KAYLES);
        Check.due("none", x.period(0), -2);
        Check.tellGame(x, Check.NIM);
        Check.due("nine again", x.period(0), 9);
        Check.tellGame(x, "octal .201");
        Check.due("two", x.period(0), 2);
        Check.tellGame(x, "octal .534347");
        Check.due("forty", x.period(0), 40);
        Check.due("from 37 on", x.period(1), 37);
    }

    private static void handIsEmpty() {
        LastLoses x = Check.told(Check.KAYLES, 12, 9, 1);
        x.keep(0);
        x.keep(2);
        x.draws(2147483647);
        Check.tellGame(x, Check.TWO);
        Check.heaps("hand", x::hand);
        Check.due("kept", x.count(4), 0);
        Check.none("apart", x.apart(0, 0), x.apart(1, 0), x.apart(2, 0));
        Check.due("undone", x.count(3), 0);
        Check.due("undo", x.undo(), -1);
        Check.due("x", x.count(2), 2147483647);
        Check.due("22 beans can come again", x.put(12), 12);
    }

    private static void sameGameAgain() {
        LastLoses x = Check.told(Check.TWO, 3);
        x.keep(1);
        Check.due("again", Check.tellGame(x, Check.TWO), 1);
        Check.due("hand", x.hand(0), 0);
        Check.due("kept", x.count(4), 0);
        Check.due("undone", x.count(3), 0);
    }

    private static void howManyLines() {
        Check.lines("octal .3", 1);
        Check.lines("octal .3;never 1 1", 2);
        Check.lines("octal .3" + ";also 2 to 0".repeat(14), 15);
        Check.lines("octal .3" + ";also 2 to 0".repeat(15), 16);
    }

    private static void fault() {
        Check.due("of an empty tape", new LastLoses().game(), -3);
        Check.fault("octal .3;also 0 to 0", 14, 2);
        Check.fault("also 1 to 0", 0, 4);
        Check.fault("octal .3" + " ".repeat(191) + ";", 200, 1);
    }

    private static void nothingHappens() {
        LastLoses x = Check.told("octal .77;never 2 1", 2, 3);
        x.put(5);
        x.undo();
        x.keep(2);
        x.draws(77);
        Check.refused(x, "an empty text", -3, x::game);
        Check.refused(x, "a wrong number", -2 - (8 * 19 + 2), () -> Check.tellGame(x, "octal .3;also 2 to 2"));
        Check.refused(x, "a second octal", -2 - (8 * 9 + 4), () -> Check.tellGame(x, "octal .3;octal .3"));
        Check.due("undone as ever", x.undo(), 1);
        Check.heaps("hand", x::hand, 2);
        Check.due("kept as ever", x.apart(2, 0), 0);
    }

    private static void lateFault() {
        LastLoses x = Check.told(Check.TWO, 4);
        String sixteen = "octal .1" + ";never 1 1".repeat(15);
        Check.refused(x, "a seventeenth line", -2 - (8 * 159 + 4), () -> Check.tellGame(x, sixteen + ";never 1 1"));
        Check.due("moves", x.moves(4), 2);
        Check.due("nimber", x.nimber(1), 1);
        Check.due("remote", x.state(1), 3);
    }

    private static void faultOfTheFirst() {
        LastLoses x = new LastLoses();
        Check.due("a wrong one", Check.tellGame(x, "octal .3;"), -2 - (8 * 9 + 1));
        Check.none("no game then", x.moves(1), x.put(1), x.state(0), x.elements(1));
        Check.due("no digits", x.count(0), 0);
        Check.due("no lines", x.count(1), 0);
    }
}
