import java.util.Arrays;

/** Terms, part II: POSITIONS, who WINS, NIMBERS, GENUS, LIKE NIM, PERIOD. */
public final class Terms2Test {
    public static void main(String[] args) {
        Sentences of = Sentences.ofTerms("A POSITION: HEAPS,", " ==== III.", args);
        outcomes(of);
        numbers(of);
        orders(of);
        periods(of);
        of.finish();
    }

    private static void outcomes(Sentences of) {
        of.hold("A POSITION: HEAPS, at most 22 BEANS together, if nothing else is said.", Terms2Test::atMost22);
        of.hold("One MOVES a HEAP of it; who MOVES last loses.", Terms2Test::lastMoverLoses);
        of.hold("It WINS (for who is to MOVE), if there is no MOVE,", Terms2Test::winsWithoutMoves);
        of.hold("or one to a POSITION that LOSES; else it LOSES.", Terms2Test::winsByOneThatLoses);
        of.hold("REMOTE: 0 without MOVES;", Terms2Test::remoteWithoutMoves);
        of.hold("of one that WINS 1 and the least of those MOVES to one that LOSES;", Terms2Test::remoteOfWinner);
        of.hold("of one that LOSES 1 and the greatest of all MOVES.", Terms2Test::remoteOfLoser);
    }

    private static void numbers(Sentences of) {
        of.hold("NIMBER of a HEAP: the least number (0 and on) that none of its MOVES has,", Terms2Test::nimberOfHeap);
        of.hold("each having its HEAPS' NIMBERS joined bit by bit, where bits are unlike;", Terms2Test::partsJoined);
        of.hold("of a POSITION its HEAPS' joined so.", Terms2Test::nimberOfPosition);
        of.hold("BACK NIMBER of a POSITION: 1 without MOVES;", Terms2Test::backNimberWithoutMoves);
        of.hold("else the least number that none of its MOVES has.", Terms2Test::backNimberOfMoves);
        of.hold("LEAST, MOST: the fewest, the most MOVES, one behind the other, till there is none, whoever makes them.",
                Terms2Test::leastAndMost);
        of.hold("GENUS k (0 to 2) of a POSITION: the BACK NIMBER of it with k NIM HEAPS of 2 beside it "
                + "(one of 2 can become one of 1, or none, one of 1 none).", Terms2Test::genus);
        of.hold("It is TAME, with NIMBER n, if its GENUS 0, 1, 2 are n, n joined with 2, n;", Terms2Test::tame);
        of.hold("or, n being 0, 1, 2, 0; or, n being 1, 0, 3, 1.", Terms2Test::tameOf0And1);
    }

    private static void orders(Sentences of) {
        of.hold("LOSERS of some BEANS: the POSITIONS of so many that LOSE.", Terms2Test::losers);
        of.hold("POSITIONS are in the order of BEANS,", Terms2Test::orderOfBeans);
        of.hold("of like ones of how many HEAPS of 1 there are, the fewer first, then of 2, and so on.",
                Terms2Test::orderOfHeaps);
        of.hold("LIKE NIM is a POSITION, if it LOSES just if its NIMBER is 1, all its HEAPS being of NIMBER 0 or 1;",
                Terms2Test::likeNimOfSmall);
        of.hold("if not all are, just if its NIMBER is 0.", Terms2Test::likeNimOfGreat);
        of.hold("ODD: the first POSITION of at most 12 BEANS that is not.", Terms2Test::oddAtMost12);
        of.hold("WILD: the first one of at most 12 that is not TAME.", Terms2Test::wildAtMost12);
    }

    private static void periods(Sentences of) {
        of.hold("PERIOD: with d DIGITS (no also, no never told):", Terms2Test::digitsOfPeriod);
        of.hold("NIMBERS of greater HEAPS are by the code likewise, p and e (from 1 on) such that the NIMBER of "
                + "n and p is that of n for all n from e to 2 * e + p + d - 1,", Terms2Test::greaterHeaps);
        of.hold("2 * e + 2 * p + d at most 160:", Terms2Test::atMost160);
        of.hold("the least p, then the least e.", Terms2Test::leastPThenLeastE);
    }

    private static void state(String game, int what, int want, int... heaps) {
        LastLoses x = Check.told(game, heaps);
        Check.due(game + " " + Arrays.toString(heaps) + " state " + what, x.state(what), want);
    }

    private static void genus(String game, int[] heaps, int... want) {
        LastLoses x = Check.told(game, heaps);
        for (int k = 0; k <= 2; k++) {
            Check.due(game + " " + Arrays.toString(heaps) + " genus " + k, x.genus(k), want[k]);
        }
    }

    private static int[] of(int... heaps) {
        return heaps;
    }

    private static void atMost22() {
        LastLoses x = Check.told(Check.TAKE_ONE, 12, 10);
        Check.due("22", x.hand(0), 22);
        Check.due("23", x.put(1), -1);
        Check.due("losers of 22", x.losers(22, -1), 0);
        Check.due("losers of 23", x.losers(23, -1), -1);
    }

    private static void lastMoverLoses() {
        state(Check.TAKE_ONE, 0, 0, 1);
        state(Check.TAKE_ONE, 0, 1, 1, 1);
        state(Check.NIM, 0, 0, 1, 1, 1);
        state(Check.NIM, 0, 1, 12);
    }

    private static void winsWithoutMoves() {
        state(Check.TAKE_ONE, 0, 1);
        state(Check.NO_MOVES, 0, 1, 1);
        state("octal .1", 0, 1, 2, 12);
        // one move, and none is left: 1 loses, whatever lies beside it
        state("octal .1", 0, 0, 1, 2, 12);
    }

    private static void winsByOneThatLoses() {
        state(Check.TWO, 0, 1, 2);
        state(Check.TWO, 0, 1, 3);
        state(Check.TWO, 0, 0, 4);
        state(Check.TWO, 0, 0, 2, 2);
        state(Check.TWO, 0, 1, 2, 2, 1);
    }

    private static void remoteWithoutMoves() {
        state(Check.TAKE_ONE, 1, 0);
        state(Check.NO_MOVES, 1, 0, 12);
        state("octal .1", 1, 0, 2, 3);
    }

    private static void remoteOfWinner() {
        state(Check.TWO, 1, 2, 2);
        state(Check.TWO, 1, 2, 1, 1);
        // 4 to 3, 2, 1, none, or at once to 1, the other loser
        state("octal .0;also 1 to 0;also 2 to 1;also 3 to 2;also 4 to 3;also 4 to 1", 1, 2, 4);
        state(Check.TAKE_ONE, 1, 22, 12, 10);
    }

    private static void remoteOfLoser() {
        state(Check.TWO, 1, 1, 1);
        state(Check.TWO, 1, 3, 4);
        state(Check.TWO, 1, 3, 2, 2);
        state(Check.TAKE_ONE, 1, 21, 12, 9);
        // 5 to 4 is over at once, and who is to move wins; 5 to 2 lasts longer
        state("octal .0;also 1 to 0;also 2 to 1;also 5 to 4;also 5 to 2", 1, 3, 5);
    }

    private static void nimberOfHeap() {
        LastLoses x = Check.told("octal .0;also 1 to 0;also 3 to 1;also 4 to 1;also 4 to 0");
        int[] nimbers = {1, 0, 0, 2};
        for (int heap = 1; heap <= 4; heap++) {
            Check.due("of " + heap, x.nimber(heap), nimbers[heap - 1]);
        }
    }

    private static void partsJoined() {
        LastLoses x = Check.told(Check.KAYLES);
        int[] kayles = {1, 2, 3, 1, 4, 3, 2, 1, 4, 2, 6, 4};
        for (int heap = 1; heap <= 12; heap++) {
            Check.due("Kayles " + heap, x.nimber(heap), kayles[heap - 1]);
        }
        LastLoses dawson = Check.told(Check.DAWSON);
        int[] nimbers = {0, 1, 1, 2, 0, 3, 1, 1, 0, 3, 3, 2};
        for (int heap = 1; heap <= 12; heap++) {
            Check.due("Dawson's Kayles " + heap, dawson.nimber(heap), nimbers[heap - 1]);
        }
    }

    private static void nimberOfPosition() {
        state(Check.NIM, 2, 0);
        state(Check.NIM, 2, 3, 1, 2);
        state(Check.NIM, 2, 0, 3, 1, 2);
        state(Check.NIM, 2, 15, 8, 7);
        state(Check.NIM, 2, 8, 8, 7, 7);
    }

    private static void backNimberWithoutMoves() {
        state(Check.NIM, 3, 1);
        state(Check.NO_MOVES, 3, 1, 12, 10);
    }

    private static void backNimberOfMoves() {
        state(Check.NIM, 3, 0, 1);
        state(Check.NIM, 3, 2, 2);
        state(Check.NIM, 3, 8, 8);
        state(Check.NIM, 3, 1, 1, 1);
        state(Check.NIM, 3, 3, 1, 2);
        state("octal .31", 3, 0, 3);
        state(Check.KAYLES, 3, 1, 5);
    }

    private static void leastAndMost() {
        String game = "octal .0;also 5 to 4;also 5 to 2;also 2 to 1;also 1 to 0";
        state(game, 6, 1, 5);
        state(game, 7, 3, 5);
        state(game, 6, 3, 5, 2);
        state(game, 7, 5, 5, 2);
        // a split can make it last longer than its own beans' halves
        state(Check.KAYLES, 6, 3, 5);
        state(Check.KAYLES, 7, 5, 5);
        state(Check.TAKE_ONE, 6, 22, 12, 10);
        state(Check.NIM, 6, 1, 8);
        state(Check.NIM, 6, 2, 9);
    }

    private static void genus() {
        genus(Check.NIM, of(), 1, 2, 0);
        genus(Check.NIM, of(1), 0, 3, 1);
        genus(Check.NIM, of(2), 2, 0, 2);
        genus(Check.NIM, of(3), 3, 1, 3);
        genus(Check.NIM, of(1, 1), 1, 2, 0);
        genus(Check.NIM, of(2, 2), 0, 2, 0);
        genus(Check.NIM, of(8, 7), 15, 13, 15);
        genus(Check.KAYLES, of(5), 1, 4, 6);
        genus("octal .06", of(12), 1, 4, 2);
    }

    private static void tame() {
        state(Check.NIM, 8, 1, 8, 7);
        state(Check.NIM, 8, 1, 2, 2);
        state(Check.NIM, 8, 1, 2, 2, 1);
        genus("octal .31", of(3), 0, 2, 0);
        state("octal .31", 8, 1, 3);
        // just one of the three is another number
        genus("octal .774;never 6 2", of(7), 6, 5, 6);
        state("octal .774;never 6 2", 2, 6, 7);
        state("octal .774;never 6 2", 8, 0, 7);
        genus("octal .3126", of(5, 6, 7), 5, 7, 2);
        state("octal .3126", 8, 0, 5, 6, 7);
        genus("octal .64", of(5, 10), 0, 7, 5);
        state("octal .64", 8, 0, 5, 10);
        state("octal .06", 8, 0, 12);
        state(Check.KAYLES, 8, 0, 5);
    }

    private static void tameOf0And1() {
        state(Check.NIM, 8, 1);
        state(Check.NIM, 8, 1, 1, 1);
        state(Check.NIM, 8, 1, 1);
        state(Check.NIM, 8, 1, 1, 1, 1);
        state(Check.NO_MOVES, 8, 1, 12, 10);
        state(Check.DAWSON, 8, 0, 10);
        // of nimber 1, but its first is neither 1 nor 0
        genus("octal .62", of(4, 6, 10), 4, 3, 1);
        state("octal .62", 2, 1, 4, 6, 10);
        state("octal .62", 8, 0, 4, 6, 10);
    }

    private static void losers() {
        LastLoses x = Check.told(Check.TWO);
        int[] many = {0, 1, 0, 1, 3};
        for (int beans = 0; beans < many.length; beans++) {
            Check.due(beans + " beans", x.losers(beans, -1), many[beans]);
        }
    }

    private static void orderOfBeans() {
        // 3 is not like nim, nor are 1 3 and 2 3, which have more beans
        Check.heaps("odd", Check.told("octal .31")::odd, 3);
        LastLoses x = Check.told(Check.NIM, 3);
        Check.heaps("simplest of 3 is 3, not 1 2", x::simplest, 3);
    }

    private static void orderOfHeaps() {
        LastLoses x = Check.told(Check.TAKE_ONE);
        int[][] first = {{1}, {3}, {5}, {7}, {9}, {11}, {6, 7}, {7, 8}, {8, 9}, {9, 10}, {10, 11}};
        for (int i = 0; i < first.length; i++) {
            int beans = 2 * i + 1;
            for (int heap = 1; heap <= 12; heap++) {
                int many = 0;
                for (int one : first[i]) {
                    many += one == heap ? 1 : 0;
                }
                Check.due("first of " + beans + ", heaps of " + heap, x.losers(beans, heap), many);
            }
        }
    }

    private static void likeNimOfSmall() {
        state(Check.NIM, 5, 1);
        state(Check.NIM, 5, 1, 1);
        state(Check.NIM, 5, 1, 1, 1);
        state("octal .31", 5, 0, 3);
        state("octal .31", 5, 0, 1, 3);
    }

    private static void likeNimOfGreat() {
        state(Check.NIM, 5, 1, 2);
        state(Check.NIM, 5, 1, 2, 2);
        state(Check.NIM, 5, 1, 2, 2, 1);
        // 1 and 5 have nimbers 1 and 4, but they lose
        state(Check.KAYLES, 5, 0, 1, 5);
    }

    private static void oddAtMost12() {
        Check.heaps("just 12", Check.told(Check.DAWSON)::odd, 12);
        LastLoses late = Check.told("octal .170;never 2 2", 1, 12);
        Check.due("1 and 12 are not like nim", late.state(5), 0);
        Check.due("but they are 13", late.odd(0), -2);
    }

    private static void wildAtMost12() {
        Check.heaps("just 12", Check.told("octal .06")::wild, 12);
        Check.heaps("of nimber 0 or 1", Check.told(Check.DAWSON)::wild, 10);
        Check.due("none", Check.told("octal .31").wild(0), -2);
    }

    private static void digitsOfPeriod() {
        Promise08Test.period("octal .3", 2, 1);
        Promise08Test.period("octal .3;never 2 2", -3, -3);
        Promise08Test.period("octal .3;also 2 to 1", -3, -3);
        Promise08Test.period("octal .00000000", 1, 1);
    }

    private static void greaterHeaps() {
        // by heaps of 1 to 12 alone none of these could be seen
        Promise08Test.period("octal .15", 10, 1);
        Promise08Test.period("octal .123", 5, 5);
        Promise08Test.period("octal .34", 8, 7);
        Promise08Test.period("octal .043", 60, 16);
        // as far as 2 * e goes: with e alone it would be 7, or 3 from 22 on
        Promise08Test.period("octal .02373", 8, 21);
        Promise08Test.period("octal .6", -2, -2);
        // as far as p goes, too: else 5 from 1 on
        Promise08Test.period("octal .627", -2, -2);
        // as far as d goes, too: else 1 from 1 on
        Promise08Test.period("octal .552", 6, 1);
    }

    private static void atMost160() {
        // 2 * 37 + 2 * 40 + 6
        Promise08Test.period("octal .534347", 40, 37);
        // 161: a digit of 0 more is a digit
        Promise08Test.period("octal .5343470", -2, -2);
        Promise08Test.period("octal .11633", -2, -2);
        Promise08Test.period("octal .77777777", -2, -2);
    }

    private static void leastPThenLeastE() {
        Promise08Test.period("octal .0", 1, 1);
        Promise08Test.period("octal .1", 1, 2);
        Promise08Test.period("octal .00000001", 1, 9);
        Promise08Test.period("octal .33333333", 9, 1);
        Promise08Test.period("octal .72", 4, 1);
    }
}
