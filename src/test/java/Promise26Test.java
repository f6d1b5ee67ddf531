/** Promise 26: games. */
public final class Promise26Test {
    public static void main(String[] args) {
        Sentences of = Sentences.ofPromise(26, args);
        of.hold("DRAWN GAMES what 0: how many of m who begins wins, 1: how many MOVES, together", Promise26Test::forced);
        of.hold("DRAWN GAMES what 0: how many of m who begins wins, 1: how many MOVES, together", Promise26Test::drawn);
        of.hold("DRAWN GAMES what 0: how many of m who begins wins, 1: how many MOVES, together", Promise26Test::empty);
        of.hold("NONE without these", Promise26Test::withoutM);
        of.hold("NONE without these", Promise26Test::withoutWhat);
        of.hold("or a GAME", Promise26Test::withoutGame);
        of.finish();
    }

    private static void forced() {
        LastLoses even = Check.told(Check.TAKE_ONE, 12, 10);
        Check.due("one of 22 moves, won", even.games(1, 0), 1);
        Check.due("one of 22 moves", even.games(1, 1), 22);
        Check.due("twenty won", even.games(20, 0), 20);
        Check.due("twenty of 22 moves", even.games(20, 1), 440);
        LastLoses odd = Check.told(Check.TAKE_ONE, 1);
        Check.due("who makes the last move loses", odd.games(20, 0), 0);
        Check.due("twenty of one", odd.games(20, 1), 20);
    }

    private static void drawn() {
        LastLoses x = Check.told(Check.TWO, 2);
        Check.due("from 0 on, one won", x.games(1, 0), 1);
        Check.due("from 0 on, one's moves", x.games(1, 1), 2);
        Check.due("from 0 on, twenty won", x.games(20, 0), 14);
        Check.due("from 0 on, twenty's moves", x.games(20, 1), 34);
        Check.due("the same again", x.games(20, 1), 34);
        LastLoses like = Check.told(Check.TWO, 1, 1, 2);
        Check.due("like heaps, won", like.games(20, 0), 12);
        Check.due("like heaps, moves", like.games(20, 1), 72);
        like.draws(2147483647);
        x.draws(2147483647);
        Check.due("from the greatest on, won", x.games(1, 0), 0);
        Check.due("from the greatest on, moves", x.games(1, 1), 1);
    }

    private static void empty() {
        LastLoses x = Check.told(Check.TWO);
        Check.due("without heaps who begins wins", x.games(20, 0), 20);
        Check.due("without heaps", x.games(20, 1), 0);
        LastLoses stuck = Check.told(Check.NO_MOVES, 12, 10);
        Check.due("without moves who begins wins", stuck.games(1, 0), 1);
        Check.due("without moves", stuck.games(1, 1), 0);
    }

    private static void withoutM() {
        LastLoses x = Check.told(Check.TWO, 2);
        Check.outside("games m", m -> x.games(m, 0), 0, 21);
        Check.outside("games m", m -> x.games(m, 1), 0, 21);
    }

    private static void withoutWhat() {
        LastLoses x = Check.told(Check.TWO, 2);
        Check.outside("games what", what -> x.games(1, what), 2, 3);
    }

    private static void withoutGame() {
        LastLoses x = new LastLoses();
        Check.none("games", x.games(1, 0), x.games(20, 1), x.games(0, 0), x.games(21, 2));
    }
}
