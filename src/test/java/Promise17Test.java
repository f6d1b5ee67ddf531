/** Promise 17: state. */
public final class Promise17Test {
    public static void main(String[] args) {
        Sentences of = Sentences.ofPromise(17, args);
        of.hold("Of the HAND what 0: 1 if it WINS, else 0", Promise17Test::wins);
        of.hold("1: REMOTE", Promise17Test::remote);
        of.hold("2: NIMBER", Promise17Test::nimber);
        of.hold("3: BACK NIMBER", Promise17Test::backNimber);
        of.hold("4: how many MOVES go to a POSITION that LOSES (like HEAPS, too, each)", Promise17Test::movesToLosers);
        of.hold("5: 1 if it is LIKE NIM, else 0", Promise17Test::likeNim);
        of.hold("6: LEAST, 7: MOST", Promise17Test::leastAndMost);
        of.hold("8: 1 if it is TAME, else 0", Promise17Test::tame);
        of.hold("Of the HAND", Promise17Test::emptyHand);
        of.hold("Of the HAND", Promise17Test::fullHand);
        of.hold("NONE for others", Promise17Test::others);
        of.hold("or without a GAME", Promise17Test::withoutGame);
        of.finish();
    }

    private static void state(String game, int what, int want, int... heaps) {
        LastLoses x = Check.told(game, heaps);
        Check.due(game + " " + java.util.Arrays.toString(heaps) + " state " + what, x.state(what), want);
    }

    private static void wins() {
        state(Check.TAKE_ONE, 0, 1);
        state(Check.TAKE_ONE, 0, 0, 1);
        state(Check.TAKE_ONE, 0, 1, 1, 1);
        state(Check.NO_MOVES, 0, 1, 12);
        state(Check.NIM, 0, 0, 2, 2);
        state(Check.NIM, 0, 1, 1, 2);
    }

    private static void remote() {
        state(Check.TAKE_ONE, 1, 0);
        state(Check.NO_MOVES, 1, 0, 12, 10);
        state(Check.TAKE_ONE, 1, 1, 1);
        // 22 beans, one a move
        state(Check.TAKE_ONE, 1, 22, 12, 10);
        state(Check.NIM, 1, 2, 8);
        state(Check.NIM, 1, 3, 2, 2);
    }

    private static void nimber() {
        state(Check.NIM, 2, 0);
        state(Check.NIM, 2, 15, 7, 8);
        state(Check.NIM, 2, 0, 4, 5, 1);
        // joined, not added up
        state(Check.NIM, 2, 0, 7, 7);
        state(Check.NIM, 2, 1, 10);
    }

    private static void backNimber() {
        state(Check.NIM, 3, 1);
        state(Check.NO_MOVES, 3, 1, 12, 10);
        state(Check.NIM, 3, 0, 1);
        state(Check.NIM, 3, 1, 1, 1);
        state(Check.NIM, 3, 2, 2);
        state(Check.NIM, 3, 0, 2, 2);
        state(Check.NIM, 3, 15, 7, 8);
    }

    private static void movesToLosers() {
        state(Check.NIM, 4, 0);
        state(Check.NIM, 4, 0, 1);
        state(Check.NIM, 4, 2, 1, 1);
        state(Check.TWO, 4, 3, 2, 2, 2);
        state(Check.TAKE_ONE, 4, 22, 1, 1, 1, 1, 1, 1, 1, 1, 1, 1, 1, 1, 1, 1, 1, 1, 1, 1, 1, 1, 1, 1);
        state(Check.NO_MOVES, 4, 0, 12);
        state(Check.NIM, 4, 3, 4, 5, 6);
        // 5 to 4, and to 2 and 2: both lose
        state(Check.KAYLES, 4, 2, 5);
        LastLoses x = Check.told(Check.TWO, 2, 2, 2);
        x.losers(22, -1);
        Check.due("whatever was asked before", x.state(4), 3);
        x.genus(2);
        Check.due("whatever was asked between", x.state(4), 3);
    }

    private static void likeNim() {
        state(Check.NIM, 5, 1);
        state(Check.NIM, 5, 1, 1);
        state(Check.NIM, 5, 1, 12, 10);
        state(Check.KAYLES, 5, 1, 5);
        state(Check.KAYLES, 5, 0, 1, 5);
        // 3 can but become 2, so it loses with nimber 0
        state("octal .31", 5, 0, 3);
    }

    private static void leastAndMost() {
        state(Check.NIM, 6, 0);
        state(Check.NIM, 7, 0);
        state(Check.NIM, 6, 1, 1);
        state(Check.NIM, 7, 1, 1);
        state(Check.NO_MOVES, 6, 0, 12, 10);
        state(Check.NO_MOVES, 7, 0, 12, 10);
        state(Check.TAKE_ONE, 6, 22, 12, 10);
        state(Check.TAKE_ONE, 7, 22, 12, 10);
        state(Check.NIM, 6, 4, 12, 10);
        state(Check.NIM, 7, 22, 12, 10);
        // .1 takes a heap of 1 alone, and nothing of 2
        state("octal .1", 7, 1, 2, 1);
        // 5 to 4, and it is over; or 5 to 3, 2, 1, none
        String game = "octal .0;also 5 to 4;also 5 to 3;also 3 to 2;also 2 to 1;also 1 to 0";
        state(game, 6, 1, 5);
        state(game, 7, 4, 5);
        state(game, 6, 2, 5, 5);
        state(game, 7, 8, 5, 5);
    }

    private static void tame() {
        state(Check.NIM, 8, 1);
        state(Check.NIM, 8, 1, 1);
        state(Check.NIM, 8, 1, 12, 10);
        state(Check.KAYLES, 8, 0, 5);
        state(Check.KAYLES, 8, 1, 4);
        // of nimber 0 with genus 0 2 0
        state("octal .31", 8, 1, 3);
    }

    private static void all(LastLoses x, String what, int... want) {
        for (int i = 0; i < want.length; i++) {
            Check.due(what + " state " + i, x.state(i), want[i]);
        }
    }

    private static void emptyHand() {
        for (String game : new String[] {Check.NO_MOVES, Check.TWO, Check.KAYLES}) {
            all(Check.told(game), game, 1, 0, 0, 1, 0, 1, 0, 0, 1);
        }
    }

    private static void fullHand() {
        all(Check.told(Check.TAKE_ONE, 12, 10), "22 beans", 1, 22, 0, 1, 2, 1, 22, 22, 1);
        all(Check.told(Check.NO_MOVES, 12, 10), "22 beans that stay", 1, 0, 0, 1, 0, 1, 0, 0, 1);
        LastLoses ones = Check.told(Check.TWO, 1, 1, 1, 1, 1, 1, 1, 1, 1, 1, 1, 1, 1, 1, 1, 1, 1, 1, 1, 1, 1, 1);
        all(ones, "22 heaps of 1", 1, 22, 0, 1, 22, 1, 22, 22, 1);
        LastLoses moved = Check.told(Check.TAKE_ONE, 12, 10);
        moved.move(10, 0, 9);
        all(moved, "21 beans", 0, 21, 1, 0, 0, 1, 21, 21, 1);
    }

    private static void others() {
        LastLoses x = Check.told(Check.TWO, 5);
        Check.outside("state", x::state, 9, 10);
        LastLoses empty = Check.told(Check.TWO);
        Check.outside("state of an empty hand", empty::state, 9);
    }

    private static void withoutGame() {
        LastLoses x = new LastLoses();
        for (int what = -1; what <= 9; what++) {
            Check.due("state " + what, x.state(what), -1);
        }
    }
}
