/** Promise 37: count. */
public final class Promise37Test {
    public static void main(String[] args) {
        Sentences of = Sentences.ofPromise(37, args);
        of.hold("What 0: DIGITS", Promise37Test::digits);
        of.hold("1: also and never LINES", Promise37Test::lines);
        of.hold("2: x", Promise37Test::numberX);
        of.hold("3: ACTS that can be UNDONE", Promise37Test::acts);
        of.hold("4: KEPT, as bits", Promise37Test::kept);
        of.hold("5: bytes of the TAPE", Promise37Test::tape);
        of.hold("NONE for others", Promise37Test::others);
        of.finish();
    }

    private static void digits() {
        Check.due("no game", new LastLoses().count(0), 0);
        Check.due("one", Check.told("octal .0").count(0), 1);
        Check.due("eight, 0 too", Check.told("octal .00000000").count(0), 8);
        Check.due("seven and a number behind", Check.told("octal .1234567;never 1 8").count(0), 7);
    }

    private static void lines() {
        Check.due("no game", new LastLoses().count(1), 0);
        Check.due("octal alone", Check.told("octal .3").count(1), 0);
        Check.due("like ones, too", Check.told("octal .3;never 1 1;never 1 1").count(1), 2);
        Check.due("fifteen", Check.told("octal .3" + ";also 1 to 0".repeat(15)).count(1), 15);
    }

    private static void numberX() {
        LastLoses x = new LastLoses();
        Check.due("at first", x.count(2), 0);
        x.draws(2147483647);
        Check.due("the greatest", x.count(2), 2147483647);
        x.draws(-1);
        Check.due("refused", x.count(2), 2147483647);
        Check.tellGame(x, Check.TWO);
        x.put(5);
        x.games(20, 0);
        Check.due("behind drawn games", x.count(2), 2147483647);
    }

    private static void acts() {
        LastLoses x = Check.told(Check.TWO);
        Check.due("none", x.count(3), 0);
        for (int i = 1; i <= 22; i++) {
            x.put(1);
            Check.due("put " + i, x.count(3), i);
        }
        for (int i = 23; i <= 32; i++) {
            x.move(1, 0, 0);
            Check.due("moved " + i, x.count(3), Math.min(i, 30));
        }
        x.undo();
        Check.due("undone", x.count(3), 29);
        Check.due("no game", new LastLoses().count(3), 0);
    }

    private static void kept() {
        LastLoses x = Check.told(Check.TWO);
        int[] bits = {0, 4, 5, 7, 7};
        int[] under = {2, 0, 1, 1};
        for (int i = 0; i < under.length; i++) {
            Check.due("before keep " + i, x.count(4), bits[i]);
            x.keep(under[i]);
        }
        Check.due("all", x.count(4), bits[4]);
        Check.due("no game", new LastLoses().count(4), 0);
    }

    private static void tape() {
        LastLoses x = new LastLoses();
        Check.due("none", x.count(5), 0);
        for (int i = 1; i <= 11; i++) {
            x.feed(0, 0, 0, 0, 0);
            Check.due("fed", x.count(5), Math.min(20 * i, 200));
        }
        x.end(3);
        Check.due("ended", x.count(5), 3);
        x.game();
        Check.due("told", x.count(5), 0);
    }

    private static void others() {
        LastLoses none = new LastLoses();
        Check.outside("count without a game", none::count, 6, 7);
        LastLoses x = Check.told(Check.TWO, 3);
        Check.outside("count", x::count, 6, 7);
    }
}
