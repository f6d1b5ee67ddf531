/** Promise 25: draws. */
public final class Promise25Test {
    public static void main(String[] args) {
        Sentences of = Sentences.ofPromise(25, args);
        of.hold("x becomes a number: what it was", Promise25Test::whatItWas);
        of.hold("x becomes a number: what it was", Promise25Test::withAndWithoutGame);
        of.hold("NONE, and nothing happens, below 0", Promise25Test::below0);
        of.finish();
    }

    private static void whatItWas() {
        LastLoses x = new LastLoses();
        Check.due("at first 0", x.draws(2147483647), 0);
        Check.due("the greatest", x.count(2), 2147483647);
        Check.due("then 0", x.draws(0), 2147483647);
        Check.due("then 1", x.draws(1), 0);
        Check.due("the same again", x.draws(1), 1);
    }

    private static void withAndWithoutGame() {
        LastLoses x = new LastLoses();
        x.draws(2147483647);
        Check.tellGame(x, Check.TWO);
        x.put(2);
        // 2147483647 becomes 1043980748; by 65536 that is 15929, an odd number: 2 to none
        Check.due("one move", x.games(1, 1), 1);
        Check.due("what it was", x.draws(0), 2147483647);
        // 0 becomes 12345, by 65536 0: 2 to 1, then 1 to none
        Check.due("two moves", x.games(1, 1), 2);
        Check.due("no act", x.count(3), 1);
    }

    private static void below0() {
        LastLoses x = Check.told(Check.TWO, 5);
        x.draws(12345);
        Check.refused(x, "draws", -1, () -> x.draws(-1), () -> x.draws(Integer.MIN_VALUE), () -> x.draws(-2));
        Check.due("x is what it was", x.draws(0), 12345);
        LastLoses none = new LastLoses();
        Check.refused(none, "without a game", -1, () -> none.draws(-1));
    }
}
