/** Promise 1: a new object. */
public final class Promise01Test {
    public static void main(String[] args) {
        Sentences of = Sentences.ofPromise(1, args);
        of.hold("No GAME.", Promise01Test::noGame);
        of.hold("No GAME.", Promise01Test::allElseIsEmpty);
        of.hold("No GAME.", Promise01Test::objectsShareNothing);
        of.finish();
    }

    private static void noGame() {
        LastLoses x = new LastLoses();
        Check.none("of heaps", x.moves(1), x.option(1, 0, 0), x.nimber(1), x.period(0), x.odd(0), x.wild(0));
        Check.none("of the hand", x.put(1), x.move(1, 0, 0), x.reply(), x.clear(), x.undo(), x.state(0), x.genus(0),
                x.line(0), x.losers(0, -1), x.losers(1, 1), x.keep(0), x.apart(0, 0), x.simplest(0), x.answers(0),
                x.answers(-1), x.games(1, 0), x.games(1, 1));
        Check.none("of quotients", x.elements(1), x.word(1, 0, 0), x.next(1, 0, 1), x.times(1, 0, 0), x.sets(1, 0),
                x.pairs(1), x.proved(1), x.stays(1), x.power(1, 0, 0), x.place(1));
    }

    private static void allElseIsEmpty() {
        LastLoses x = new LastLoses();
        Check.heaps("the hand", x::hand);
        for (int what = 0; what <= 5; what++) {
            Check.due("count " + what, x.count(what), 0);
        }
        Check.due("the tape ends at 0", x.end(0), 0);
        Check.due("x is 0", x.draws(0), 0);
    }

    private static void objectsShareNothing() {
        LastLoses told = Check.told(Check.TWO, 5);
        told.draws(9);
        told.keep(1);
        told.feed(1, 2, 3, 4, 5);
        LastLoses other = new LastLoses();
        Check.none("of the other", other.moves(1), other.apart(1, 0), other.undo());
        for (int what = 0; what <= 5; what++) {
            Check.due("count of the other " + what, other.count(what), 0);
        }
        Check.tellGame(other, Check.KAYLES);
        Check.heaps("the hand of the first", told::hand, 5);
        Check.due("moves of the first", told.moves(5), 2);
    }
}
