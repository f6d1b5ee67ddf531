/** Promise 35: power. */
public final class Promise35Test {
    public static void main(String[] args) {
        Sentences of = Sentences.ofPromise(35, args);
        of.hold("POWER what 0: as the how manieth, 1: how many later", Promise35Test::ofTheFirst);
        of.hold("POWER what 0: as the how manieth, 1: how many later", Promise35Test::ofTheSecond);
        of.hold("POWER what 0: as the how manieth, 1: how many later", Promise35Test::fourLater);
        of.hold("-3: UNKNOWN", Promise35Test::unknown);
        of.hold("NONE without these", Promise35Test::withoutN);
        of.hold("NONE without these", Promise35Test::withoutElement);
        of.hold("NONE without these", Promise35Test::withoutWhat);
        of.hold("NONE without these", Promise35Test::withoutGame);
        of.finish();
    }

    private static void powers(String game, int n, int[] first, int[] later) {
        LastLoses x = Check.told(game);
        for (int e = 0; e < first.length; e++) {
            Check.due(game + " power of " + e + ", first", x.power(n, e, 0), first[e]);
            Check.due(game + " power of " + e + ", later", x.power(n, e, 1), later[e]);
        }
    }

    private static void ofTheFirst() {
        powers(Check.NO_MOVES, 6, new int[] {1}, new int[] {1});
        powers(Check.TAKE_ONE, 1, new int[] {1, 1}, new int[] {1, 2});
        powers(Check.KAYLES, 5, new int[] {1, 1, 1, 1, 1, 1, 1, 1, 1, 1, 1, 1},
                new int[] {1, 2, 2, 2, 2, 2, 1, 2, 2, 2, 2, 2});
    }

    private static void ofTheSecond() {
        powers("octal .75", 5, new int[] {1, 1, 1, 2, 1, 2, 1, 1}, new int[] {1, 2, 2, 2, 2, 1, 1, 2});
        powers(Quotients.SIXTEEN, 6, new int[] {1, 1, 1, 1, 1, 2, 2, 1, 2, 2, 1, 1, 1, 2, 1, 2},
                new int[] {1, 2, 2, 2, 1, 2, 2, 2, 1, 2, 1, 2, 2, 2, 2, 2});
    }

    private static void fourLater() {
        powers(Check.DAWSON, 4, new int[] {1, 1, 1, 1}, new int[] {1, 2, 4, 4});
    }

    private static void unknown() {
        LastLoses x = Quotients.unknown();
        Check.due("what 0", x.power(Quotients.UNKNOWN, 0, 0), -3);
        Check.due("what 1", x.power(Quotients.UNKNOWN, 0, 1), -3);
        Check.due("ahead of a wrong element", x.power(Quotients.UNKNOWN, 16, 0), -3);
        Check.due("ahead of one below 0", x.power(Quotients.UNKNOWN, -1, 0), -3);
        Check.none("but behind a wrong what", x.power(Quotients.UNKNOWN, 0, 2), x.power(Quotients.UNKNOWN, 0, -1));
    }

    private static void withoutN() {
        LastLoses x = Check.told(Check.TWO);
        Check.outside("power n", n -> x.power(n, 0, 0), 0, 7);
    }

    private static void withoutElement() {
        LastLoses x = Check.told(Check.TWO);
        Check.outside("power element", element -> x.power(2, element, 0), 6, 7);
        LastLoses most = Check.told(Quotients.SIXTEEN);
        Check.outside("power element of sixteen", element -> most.power(6, element, 1), 16);
    }

    private static void withoutWhat() {
        LastLoses x = Check.told(Check.TWO);
        Check.outside("power what", what -> x.power(2, 0, what), 2, 3);
    }

    private static void withoutGame() {
        LastLoses x = new LastLoses();
        Check.none("power", x.power(1, 0, 0), x.power(6, 0, 1), x.power(0, 0, 0), x.power(7, 0, 0));
    }
}
