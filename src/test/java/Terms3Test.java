/** Terms, part III: the HAND, ACTS, LINE, APART, SIMPLEST, DRAWN GAMES. */
public final class Terms3Test {
    public static void main(String[] args) {
        Sentences of = Sentences.ofTerms("The HAND is a POSITION", " ==== IV.", args);
        acts(of);
        lines(of);
        kept(of);
        drawn(of);
        of.finish();
    }

    private static void acts(Sentences of) {
        of.hold("The HAND is a POSITION (at first empty).", Terms3Test::atFirstEmpty);
        of.hold("ACTS: PUT a HEAP, MOVE, REPLY", Terms3Test::fourActs);
        of.hold("(the first MOVE to a POSITION that LOSES: from the least HEAP on, its MOVES in their order), CLEAR.",
                Terms3Test::firstReply);
        of.hold("The last 30 can be UNDONE, the last first.", Terms3Test::last30);
    }

    private static void lines(Sentences of) {
        of.hold("LINE from the HAND: of one that WINS the first MOVE to a POSITION that LOSES, "
                + "of those the REMOTE of which is least,", Terms3Test::soonest);
        of.hold("of one that LOSES the first MOVE to a POSITION the REMOTE of which is greatest (first: as of REPLY);",
                Terms3Test::latest);
        of.hold("and so on, till there is none.", Terms3Test::tillThereIsNone);
    }

    private static void kept(Sentences of) {
        of.hold("KEPT 0 to 2: the HAND, as it is.", Terms3Test::asItIs);
        of.hold("APART: the first POSITION of at most 7 BEANS, so that it put beside the HAND and beside a KEPT one, "
                + "just one of both LOSES.", Terms3Test::apart);
        of.hold("SIMPLEST: the first POSITION of at most 7 BEANS for which there is none such, it and the HAND.",
                Terms3Test::simplest);
        of.hold("ANSWERS: the HAND's MOVES to POSITIONS that LOSE (of like HEAPS once, as of REPLY).",
                Terms3Test::answers);
    }

    private static void drawn(Sentences of) {
        of.hold("DRAWN GAMES: x (0 to 2147483647; 0 at first) becomes x * 1103515245 + 12345, of 2147483648 the rest;",
                Terms3Test::becomes);
        of.hold("a DRAW of k is x / 65536, of k the rest.", Terms3Test::draw);
        of.hold("In each of m (1 to 20) one begins with the HAND; by turns MOVES are made,", Terms3Test::byTurns);
        of.hold("one of all MOVES (of each HEAP, like ones, too, from the least HEAP on, in their order) "
                + "by a DRAW of how many there are, till there is none", Terms3Test::allMoves);
        of.hold("(nothing stays; x as it was).", Terms3Test::nothingStays);
    }

    private static void atFirstEmpty() {
        Check.heaps("without a game", new LastLoses()::hand);
        Check.heaps("of a new game", Check.told(Check.TWO)::hand);
    }

    private static void fourActs() {
        LastLoses x = Check.told(Check.TWO);
        x.put(4);
        Check.due("put", x.count(3), 1);
        x.move(4, 0, 2);
        Check.due("move", x.count(3), 2);
        x.reply();
        Check.due("reply", x.count(3), 3);
        x.clear();
        Check.due("clear", x.count(3), 4);
        x.keep(0);
        x.draws(5);
        x.games(3, 0);
        x.line(0);
        x.answers(0);
        Check.due("nothing else is one", x.count(3), 4);
        Check.due("nor is undo", x.undo(), 3);
    }

    private static void firstReply() {
        LastLoses x = Check.told(Check.NIM, 6, 5, 4);
        Check.due("of 4", x.reply(), 4003);
        LastLoses y = Check.told(Check.KAYLES, 5);
        Check.due("to 4, ahead of 2 and 2", y.reply(), 5004);
        // 1 to none would leave 1 2, which wins
        LastLoses z = Check.told(Check.NIM, 1, 1, 2);
        Check.due("of 2, though 1 is less", z.reply(), 2001);
    }

    private static void last30() {
        LastLoses x = Check.told(Check.TWO);
        for (int i = 1; i <= 20; i++) {
            x.put(1);
        }
        for (int i = 1; i <= 11; i++) {
            x.move(1, 0, 0);
        }
        Check.due("of 31 acts thirty", x.count(3), 30);
        Check.due("nine heaps", x.hand(1), 9);
        for (int i = 1; i <= 11; i++) {
            Check.due("undone", x.undo(), 30 - i);
            Check.due("one heap more", x.hand(1), 9 + i);
        }
        for (int i = 1; i <= 19; i++) {
            Check.due("undone", x.undo(), 19 - i);
        }
        Check.due("the first put stays", x.hand(1), 1);
        Check.due("no more", x.undo(), -1);
    }

    private static void line(String game, int[] heaps, int... want) {
        LastLoses x = Check.told(game, heaps);
        String what = game + " " + java.util.Arrays.toString(heaps) + " line ";
        for (int k = 0; k < want.length; k++) {
            Check.due(what + k, x.line(k), want[k]);
        }
        Check.due(what + "behind", x.line(want.length), -2);
    }

    private static int[] of(int... heaps) {
        return heaps;
    }

    private static void soonest() {
        line(Check.TWO, of(2), 2001, 1000);
        // 3 loses, too, but 1 loses sooner
        line("octal .0;also 1 to 0;also 2 to 1;also 3 to 2;also 4 to 3;also 4 to 1", of(4), 4001, 1000);
        // both lose at once: the first of them
        line("octal .0;also 1 to 0;also 2 to 0;also 4 to 2;also 4 to 1", of(4), 4002, 2000);
    }

    private static void latest() {
        line(Check.TWO, of(1), 1000);
        line(Check.TWO, of(2, 2), 2001, 2000, 1000);
        // 5 to 4 would be over at once
        line("octal .0;also 1 to 0;also 2 to 1;also 5 to 4;also 5 to 2", of(5), 5002, 2001, 1000);
        // 4 and 3 last alike: the first of them
        line("octal .0;also 1 to 0;also 3 to 1;also 4 to 1;also 5 to 4;also 5 to 3", of(5), 5004, 4001, 1000);
    }

    private static void tillThereIsNone() {
        line(Check.TWO, of());
        line(Check.NO_MOVES, of(12, 10));
        line("octal .4", of(12), 12035, 9020, 7030, 4015);
        line(Check.KAYLES, of(5, 7), 5016, 1000, 3002, 2001, 7005, 1000, 5004, 4003, 3001, 1000);
    }

    private static void asItIs() {
        LastLoses x = Check.told(Check.NIM, 3);
        x.keep(0);
        x.put(1);
        x.keep(1);
        x.put(2);
        x.keep(2);
        Check.due("1 2 3 under 2", x.apart(2, 0), -2);
        // 1 2 3 loses, 3 wins
        Check.due("3 under 0", x.apart(0, 0), 0);
        x.undo();
        Check.due("1 3 under 1", x.apart(1, 0), -2);
        x.undo();
        Check.due("3 under 0 still", x.apart(0, 0), -2);
    }

    private static void apart() {
        LastLoses x = Check.told(Check.NIM, 7);
        x.keep(0);
        x.clear();
        x.put(8);
        Check.heaps("7 and 8 by just 7", heap -> x.apart(0, heap), 7);
        x.keep(1);
        x.put(1);
        Check.due("8 and 1 8 by no 7 beans", x.apart(1, 0), -2);
        Check.heaps("7 and 1 8", heap -> x.apart(0, heap), 7);
    }

    private static void simplest() {
        LastLoses x = Check.told(Check.NIM, 1, 6);
        Check.heaps("of 1 6 it is 7", x::simplest, 7);
        x.clear();
        x.put(8);
        Check.due("of 8 none", x.simplest(0), -2);
        x.clear();
        Check.put(x, 3, 4, 6);
        // of nimber 1, but no heap of 1, which loses
        Check.heaps("of 3 4 6", x::simplest, 2, 3);
    }

    private static void answers() {
        LastLoses x = Check.told(Check.TWO, 2, 2, 2);
        Check.due("of like heaps once", x.answers(-1), 1);
        Check.due("but each counts as a move", x.state(4), 3);
        LastLoses y = Check.told(Check.KAYLES, 5);
        Check.due("two of one heap", y.answers(-1), 2);
        Check.due("to 4", y.answers(0), 5004);
        Check.due("to 2 and 2", y.answers(1), 5000 + 26 + 2);
    }

    private static void becomes() {
        LastLoses x = new LastLoses();
        Check.due("0 at first", x.count(2), 0);
        Check.due("the greatest", x.draws(2147483647), 0);
        Check.tellGame(x, Check.TWO);
        x.put(2);
        // 1043980748, whose 15929 is odd: 2 to none
        Check.due("from the greatest", x.games(1, 1), 1);
        x.draws(0);
        // 12345, whose 0 is even: 2 to 1
        Check.due("from 0", x.games(1, 1), 2);
        Check.due("twenty of them", x.games(20, 1), 34);
        Check.due("of which are won", x.games(20, 0), 14);
    }

    private static void draw() {
        LastLoses x = Check.told(Check.TWO, 1, 1, 2);
        Check.due("like heaps, moves", x.games(20, 1), 72);
        Check.due("like heaps, won", x.games(20, 0), 12);
    }

    private static void byTurns() {
        LastLoses even = Check.told(Check.TAKE_ONE, 2);
        Check.due("who begins has no move at last", even.games(20, 0), 20);
        LastLoses odd = Check.told(Check.TAKE_ONE, 3);
        Check.due("who begins moves last", odd.games(20, 0), 0);
        Check.due("each of them begins with the hand", odd.games(20, 1), 60);
    }

    private static void allMoves() {
        LastLoses x = Check.told(Check.TWO, 5, 3, 2, 5, 3);
        x.draws(12345);
        Check.due("won", x.games(20, 0), 12);
        Check.due("moves", x.games(20, 1), 264);
        LastLoses none = Check.told(Check.TWO);
        Check.due("no moves", none.games(20, 1), 0);
    }

    private static void nothingStays() {
        LastLoses x = Check.told(Check.KAYLES, 12, 10);
        x.keep(0);
        x.draws(99);
        Check.refused(x, "won", x.games(20, 0), () -> x.games(20, 0));
        Check.refused(x, "moves", x.games(20, 1), () -> x.games(20, 1));
    }
}
