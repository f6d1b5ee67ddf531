/** Promises 11 to 26: heaps in hand, what they are worth, what is kept, and drawn games. */
public final class HandPromisesTest {
    private static final String TWO = "octal .33";
    private static final String NIM = "octal .33333333";
    private static final String KAYLES = "octal .77";

    public static void main(String[] args) {
        put();
        move();
        reply();
        clear();
        undo();
        states();
        genus();
        line();
        losers();
        keep();
        apart();
        simplest();
        answers();
        draws();
        games();
        Check.finish("HandPromisesTest");
    }

    private static void put() {
        LastLoses x = Check.told(TWO);
        Check.due("put 0", x.put(0), -1);
        Check.due("put 13", x.put(13), -1);
        Check.due("put -1", x.put(-1), -1);
        Check.due("put most", x.put(Integer.MAX_VALUE), -1);
        Check.due("no act", x.count(3), 0);
        Check.due("put 12", x.put(12), 12);
        Check.due("put 11 too many", x.put(11), -1);
        Check.due("put 9", x.put(9), 21);
        Check.due("put 2 too many", x.put(2), -1);
        Check.due("put 1", x.put(1), 22);
        Check.due("put 1 more", x.put(1), -1);
        Check.heaps("hand", x::hand, 12, 9, 1);
        Check.due("hand 13", x.hand(13), -1);
        Check.due("hand -1", x.hand(-1), -1);
        Check.due("acts", x.count(3), 3);
    }

    private static void move() {
        LastLoses x = Check.told(KAYLES, 5, 5);
        Check.due("parts swapped", x.move(5, 3, 1), -1);
        Check.due("taken none", x.move(5, 1, 4), -1);
        Check.due("taken three", x.move(5, 0, 2), -1);
        Check.due("no such heap", x.move(4, 0, 3), -1);
        Check.due("below 0", x.move(5, -1, 5), -1);
        Check.due("most", x.move(5, Integer.MAX_VALUE, Integer.MAX_VALUE), -1);
        Check.due("heap 0", x.move(0, 0, 0), -1);
        Check.due("heap 13", x.move(13, 0, 11), -1);
        Check.heaps("nothing happened", x::hand, 5, 5);
        Check.due("acts", x.count(3), 2);
        LastLoses y = Check.told(KAYLES, 5);
        Check.due("to 1 and 3, which win", y.move(5, 1, 3), 1);
        Check.heaps("moved", y::hand, 1, 3);
        y.undo();
        Check.due("to 2 and 2, which lose", y.move(5, 2, 2), 0);
        Check.heaps("moved to like ones", y::hand, 2, 2);
        Check.due("one of both to none", y.move(2, 0, 0), 1);
        Check.heaps("one is left", y::hand, 2);
        Check.due("to 1, which loses", y.move(2, 0, 1), 0);
        Check.due("the last one", y.move(1, 0, 0), 1);
        Check.heaps("none is left", y::hand);
        LastLoses z = Check.told("octal .3;also 5 to 3 1;never 5 1", 5);
        Check.due("not told so", z.move(5, 3, 1), -1);
        Check.due("never", z.move(5, 0, 4), -1);
        Check.due("also", z.move(5, 1, 3), 1);
    }

    private static void reply() {
        LastLoses x = Check.told(TWO, 2, 1, 1);
        Check.due("2 to 1", x.reply(), 2001);
        Check.heaps("hand", x::hand, 1, 1, 1);
        Check.due("acts", x.count(3), 4);
        Check.due("none", x.reply(), -2);
        Check.due("no act", x.count(3), 4);
        LastLoses y = Check.told(TWO);
        Check.due("empty", y.reply(), -2);
        LastLoses z = Check.told(NIM, 8, 7, 2);
        Check.due("8 to 5", z.reply(), 8005);
        LastLoses k = Check.told(KAYLES, 5);
        Check.due("Kayles 5 to 4, ahead of 2 and 2", k.reply(), 5004);
        k.undo();
        Check.due("both are answers", k.answers(1), 5000 + 26 + 2);
    }

    private static void clear() {
        LastLoses x = Check.told(TWO);
        Check.due("empty", x.clear(), -1);
        Check.due("no act", x.count(3), 0);
        Check.put(x, 3, 4);
        Check.due("seven", x.clear(), 7);
        Check.heaps("empty", x::hand);
        Check.due("acts", x.count(3), 3);
        Check.due("empty again", x.clear(), -1);
        Check.due("undo", x.undo(), 2);
        Check.heaps("back", x::hand, 3, 4);
    }

    private static void undo() {
        LastLoses x = Check.told(TWO);
        Check.due("nothing yet", x.undo(), -1);
        Check.put(x, 2, 1);
        x.move(2, 0, 1);
        x.keep(1);
        x.reply();
        Check.due("the move and no reply", x.count(3), 4);
        Check.heaps("replied", x::hand, 1);
        Check.due("reply undone", x.undo(), 3);
        Check.heaps("before the reply", x::hand, 1, 1);
        Check.due("move undone", x.undo(), 2);
        Check.heaps("before the move", x::hand, 1, 2);
        Check.due("kept stays", x.count(4), 2);
        Check.due("put undone", x.undo(), 1);
        Check.due("another put", x.put(5), 7);
        Check.due("undone", x.undo(), 1);
        Check.due("undone", x.undo(), 0);
        Check.due("no more", x.undo(), -1);
        Check.heaps("empty", x::hand);

        LastLoses y = Check.told(TWO);
        for (int i = 0; i < 16; i++) {
            y.put(1 + i % 12);
            y.clear();
        }
        y.put(7);
        Check.due("thirty of 33", y.count(3), 30);
        for (int left = 29; left >= 0; left--) {
            Check.due("undo to " + left, y.undo(), left);
        }
        Check.due("no more of 33", y.undo(), -1);
        // acts 0 and 1 put and clear a heap of 1, act 2 puts 2: 3 are forgotten
        Check.heaps("what it was after the third act", y::hand, 2);
    }

    private static void state(String game, int[] heaps, int... want) {
        LastLoses x = Check.told(game, heaps);
        for (int what = 0; what < want.length; what++) {
            Check.due(game + " " + java.util.Arrays.toString(heaps) + " state " + what, x.state(what), want[what]);
        }
        Check.due("state 9", x.state(9), -1);
        Check.due("state -1", x.state(-1), -1);
    }

    private static int[] of(int... heaps) {
        return heaps;
    }

    private static void states() {
        state(TWO, of(), 1, 0, 0, 1, 0, 1, 0, 0, 1);
        state(TWO, of(1), 0, 1, 1, 0, 0, 1, 1, 1, 1);
        state(TWO, of(2), 1, 2, 2, 2, 1, 1, 1, 2, 1);
        state(TWO, of(1, 1), 1, 2, 0, 1, 2, 1, 2, 2, 1);
        state(TWO, of(1, 2), 1, 2, 3, 3, 1, 1, 2, 3, 1);
        state(TWO, of(2, 2), 0, 3, 0, 0, 0, 1, 2, 4, 1);
        state(TWO, of(2, 2, 2), 1, 4, 2, 2, 3, 1, 3, 6, 1);
        state("octal .0", of(12, 10), 1, 0, 0, 1, 0, 1, 0, 0, 1);
        state("octal .3", of(12, 10), 1, 22, 0, 1, 2, 1, 22, 22, 1);
        state("octal .3", of(12, 9), 0, 21, 1, 0, 0, 1, 21, 21, 1);
        // Kayles 5 can go to 4, or to 2 and 2; beside 1 it loses, where in nim it would win
        state(KAYLES, of(5), 1, 4, 4, 1, 2, 1, 3, 5, 0);
        state(KAYLES, of(1, 5), 0, 5, 5, 0, 0, 0, 4, 6, 0);
    }

    private static void genus(String game, int[] heaps, int... want) {
        LastLoses x = Check.told(game, heaps);
        for (int k = 0; k < 3; k++) {
            Check.due(game + " " + java.util.Arrays.toString(heaps) + " genus " + k, x.genus(k), want[k]);
        }
        Check.due("genus 3", x.genus(3), -1);
        Check.due("genus -1", x.genus(-1), -1);
    }

    private static void genus() {
        genus(TWO, of(), 1, 2, 0);
        genus(TWO, of(1), 0, 3, 1);
        genus(TWO, of(2), 2, 0, 2);
        genus(TWO, of(1, 2), 3, 1, 3);
        genus(TWO, of(2, 2), 0, 2, 0);
        genus(NIM, of(8, 7), 15, 13, 15);
        genus(KAYLES, of(5), 1, 4, 6);
        // not tame by one number of the three alone
        genus("octal .774;never 6 2", of(7), 6, 5, 6);
        Check.due("6 with 6 5 6 is not tame", Check.told("octal .774;never 6 2", 7).state(8), 0);
        genus("octal .3126", of(5, 6, 7), 5, 7, 2);
        Check.due("5 with 5 7 2 is not tame", Check.told("octal .3126", 5, 6, 7).state(8), 0);
    }

    private static void line(String game, int[] heaps, int... want) {
        LastLoses x = Check.told(game, heaps);
        String what = game + " " + java.util.Arrays.toString(heaps) + " line ";
        for (int k = 0; k < want.length; k++) {
            Check.due(what + k, x.line(k), want[k]);
        }
        Check.due(what + "behind", x.line(want.length), -2);
        Check.due(what + "far", x.line(Integer.MAX_VALUE), -2);
        Check.due(what + "below", x.line(-1), -1);
        Check.due(what + "no act", x.count(3), heaps.length);
    }

    private static void line() {
        line(TWO, of());
        line(TWO, of(1), 1000);
        line(TWO, of(2), 2001, 1000);
        line(TWO, of(2, 2), 2001, 2000, 1000);
        line("octal .3", of(3, 1), 1000, 3002, 2001, 1000);
        int[] all = new int[22];
        java.util.Arrays.fill(all, 1000);
        line("octal .3", ones(22), all);
        // 3 and 1 both lose, and 1 loses sooner
        line("octal .0;also 1 to 0;also 2 to 1;also 3 to 2;also 4 to 3;also 4 to 1", of(4), 4001, 1000);
    }

    private static int[] ones(int n) {
        int[] heaps = new int[n];
        java.util.Arrays.fill(heaps, 1);
        return heaps;
    }

    private static void losers() {
        LastLoses x = Check.told(TWO);
        Check.due("0 beans", x.losers(0, -1), 0);
        Check.due("0 beans first", x.losers(0, 1), -2);
        Check.due("1 bean", x.losers(1, -1), 1);
        Check.due("1 bean heaps of 1", x.losers(1, 1), 1);
        Check.due("1 bean heaps of 12", x.losers(1, 12), 0);
        Check.due("2 beans", x.losers(2, -1), 0);
        Check.due("2 beans first", x.losers(2, 2), -2);
        Check.due("3 beans", x.losers(3, -1), 1);
        Check.due("3 beans heaps of 1", x.losers(3, 1), 3);
        // 4; 2 2; 1 3 all lose, 1 1 2 and 1 1 1 1 do not
        Check.due("4 beans", x.losers(4, -1), 3);
        Check.due("4 beans first is one heap", x.losers(4, 4), 1);
        Check.due("23 beans", x.losers(23, -1), -1);
        Check.due("-1 beans", x.losers(-1, -1), -1);
        Check.due("heap 0", x.losers(4, 0), -1);
        Check.due("heap 13", x.losers(4, 13), -1);
        Check.due("heap -2", x.losers(4, -2), -1);
        LastLoses y = Check.told("octal .3");
        // partitions into parts of at most 12
        int[] parts = {1, 1, 2, 3, 5, 7, 11, 15, 22, 30, 42, 56, 77, 100, 133, 172, 224, 285, 366, 460, 582, 725, 905};
        for (int beans = 0; beans <= 22; beans++) {
            Check.due("take one, " + beans, y.losers(beans, -1), beans % 2 == 0 ? 0 : parts[beans]);
        }
        Check.due("first of 21 has 10", y.losers(21, 10), 1);
        Check.due("first of 21 has 11", y.losers(21, 11), 1);
        Check.due("first of 21 has no 12", y.losers(21, 12), 0);
    }

    private static void keep() {
        LastLoses x = Check.told(TWO);
        Check.due("keep 3", x.keep(3), -1);
        Check.due("keep -1", x.keep(-1), -1);
        Check.due("nothing kept", x.count(4), 0);
        Check.due("keep the empty one", x.keep(1), 0);
        x.put(5);
        Check.due("keep 5", x.keep(0), 5);
        Check.due("kept", x.count(4), 3);
        Check.due("no act", x.count(3), 1);
        Check.due("under a number again", x.keep(1), 5);
        Check.due("kept", x.count(4), 3);
    }

    private static void apart() {
        LastLoses x = Check.told(TWO);
        Check.due("nothing kept", x.apart(0, 0), -1);
        x.keep(0);
        Check.due("no other number", x.apart(1, 0), -1);
        Check.due("number 3", x.apart(3, 0), -1);
        Check.due("number -1", x.apart(-1, 0), -1);
        Check.due("heap 13", x.apart(0, 13), -1);
        Check.due("heap -1", x.apart(0, -1), -1);
        Check.due("the same", x.apart(0, 0), -2);
        Check.put(x, 1, 1);
        Check.due("1 1 is like none", x.apart(0, 1), -2);
        Check.put(x, 1);
        Check.heaps("told apart by nothing beside", h -> x.apart(0, h));
        x.keep(1);
        x.clear();
        Check.put(x, 2, 2);
        Check.heaps("2 2 and 1 1 1", h -> x.apart(1, h), 2, 2);
        Check.due("acts as they were", x.count(3), 6);
        x.clear();
        Check.put(x, 12, 3);
        Check.due("15 beans, like none", x.apart(0, 0), -2);
        Check.put(x, 1);
        Check.due("16 beans", x.apart(0, 0), -3);
        Check.due("16 beans, heap 13", x.apart(0, 13), -1);
        x.keep(2);
        x.clear();
        Check.due("16 beans kept", x.apart(2, 0), -3);
        Check.put(x, 8, 8);
        Check.due("16 beans, the first of these", x.apart(0, 0), -3);
        Check.due("simplest of these", x.simplest(0), -3);
        // beside less than 6 BEANS both win
        LastLoses y = Check.told(NIM, 6);
        y.keep(0);
        y.clear();
        Check.put(y, 7);
        Check.heaps("6 and 7", h -> y.apart(0, h), 6);
    }

    private static void simplest() {
        LastLoses x = Check.told(TWO);
        Check.heaps("none", x::simplest);
        Check.due("heap 13", x.simplest(13), -1);
        Check.due("heap -1", x.simplest(-1), -1);
        Check.put(x, 2, 2, 2);
        Check.heaps("2 2 2", x::simplest, 2);
        Check.put(x, 2);
        Check.heaps("2 2 2 2", x::simplest, 2, 2);
        Check.put(x, 1);
        Check.heaps("1 2 2 2 2", x::simplest, 1, 2, 2);
        Check.put(x, 6);
        Check.heaps("15 beans", x::simplest, 1, 2, 2);
        Check.put(x, 1);
        Check.due("16 beans", x.simplest(0), -3);
        Check.due("16 beans, heap 13", x.simplest(13), -1);
        LastLoses y = Check.told(NIM, 8);
        Check.due("8 is like none of at most 7", y.simplest(0), -2);
    }

    private static void answers() {
        LastLoses x = Check.told(TWO, 2, 2, 2);
        Check.due("like heaps once", x.answers(-1), 1);
        Check.due("first", x.answers(0), 2000);
        Check.due("second", x.answers(1), -2);
        Check.due("far", x.answers(Integer.MAX_VALUE), -2);
        Check.due("below", x.answers(-2), -1);
        Check.due("least", x.answers(Integer.MIN_VALUE), -1);
        Check.due("no act", x.count(3), 3);
        LastLoses y = Check.told(NIM, 4, 5, 6);
        Check.due("of 4 5 6", y.answers(-1), 3);
        Check.due("4 to 3", y.answers(0), 4003);
        Check.due("5 to 2", y.answers(1), 5002);
        Check.due("6 to 1", y.answers(2), 6001);
        LastLoses z = Check.told(TWO, 1);
        Check.due("none", z.answers(-1), 0);
        Check.due("no first", z.answers(0), -2);
    }

    private static void draws() {
        LastLoses x = new LastLoses();
        Check.due("at first", x.draws(5), 0);
        Check.due("below", x.draws(-1), -1);
        Check.due("least", x.draws(Integer.MIN_VALUE), -1);
        Check.due("then", x.draws(Integer.MAX_VALUE), 5);
        Check.due("most", x.draws(0), Integer.MAX_VALUE);
        Check.due("0", x.count(2), 0);
    }

    private static void games() {
        LastLoses x = Check.told("octal .3", 3);
        Check.due("three moves always, won", x.games(5, 0), 0);
        Check.due("three moves always, made", x.games(5, 1), 15);
        Check.due("m 0", x.games(0, 0), -1);
        Check.due("m 21", x.games(21, 0), -1);
        Check.due("what 2", x.games(1, 2), -1);
        Check.due("what -1", x.games(1, -1), -1);
        x.clear();
        Check.due("without moves who begins wins", x.games(20, 0), 20);
        Check.due("without moves", x.games(20, 1), 0);
        LastLoses y = Check.told(TWO, 2);
        Check.due("one won", y.games(1, 0), 1);
        Check.due("one made", y.games(1, 1), 2);
        Check.due("twenty won", y.games(20, 0), 14);
        Check.due("twenty made", y.games(20, 1), 34);
        Check.due("x as it was", y.count(2), 0);
        y.clear();
        Check.put(y, 5, 3, 2, 5, 3);
        y.draws(12345);
        Check.due("like heaps won", y.games(20, 0), 12);
        Check.due("like heaps made", y.games(20, 1), 264);
        y.draws(2147483647);
        Check.due("from the greatest won", y.games(7, 0), 5);
        Check.due("from the greatest made", y.games(7, 1), 92);
        Check.due("x stays", y.count(2), 2147483647);
        Check.heaps("hand stays", y::hand, 5, 3, 2, 5, 3);
        Check.due("acts stay", y.count(3), 7);
    }
}
