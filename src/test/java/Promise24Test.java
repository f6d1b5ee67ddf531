/** Promise 24: answers. */
public final class Promise24Test {
    public static void main(String[] args) {
        Sentences of = Sentences.ofPromise(24, args);
        of.hold("The k-th (0 the first) of the ANSWERS: 1000 times the HEAP, 13 times A, and B", Promise24Test::each);
        of.hold("The k-th (0 the first) of the ANSWERS: 1000 times the HEAP, 13 times A, and B", Promise24Test::parts);
        of.hold("k NONE: how many", Promise24Test::howMany);
        of.hold("-2: there are not so many", Promise24Test::notSoMany);
        of.hold("NONE for other k", Promise24Test::otherK);
        of.hold("or without a GAME", Promise24Test::withoutGame);
        of.finish();
    }

    private static void each() {
        LastLoses x = Check.told(Check.NIM, 6, 5, 4);
        x.keep(0);
        Check.due("4 to 3", x.answers(0), 4003);
        Check.due("5 to 2", x.answers(1), 5002);
        Check.due("6 to 1", x.answers(2), 6001);
        Check.due("no more", x.answers(3), -2);
        Check.refused(x, "nothing happens", 4003, () -> x.answers(0), () -> x.answers(0));
    }

    private static void parts() {
        LastLoses x = Check.told("octal .4", 12, 10);
        Check.due("how many", x.answers(-1), 3);
        Check.due("10 to 2 and 7", x.answers(0), 10000 + 13 * 2 + 7);
        Check.due("10 to 4 and 5", x.answers(1), 10000 + 13 * 4 + 5);
        Check.due("12 to 2 and 9", x.answers(2), 12000 + 13 * 2 + 9);
    }

    private static void howMany() {
        LastLoses x = Check.told(Check.TWO);
        Check.due("empty", x.answers(-1), 0);
        x.put(1);
        Check.due("a hand that loses", x.answers(-1), 0);
        x.put(1);
        Check.due("like heaps once", x.answers(-1), 1);
        LastLoses ones = Check.told(Check.TAKE_ONE, 1, 2, 3, 4, 5, 6, 1);
        Check.due("six sizes", ones.answers(-1), 6);
        LastLoses stuck = Check.told(Check.NO_MOVES, 12);
        Check.due("without moves", stuck.answers(-1), 0);
    }

    private static void notSoMany() {
        LastLoses x = Check.told(Check.TWO, 2, 2, 2);
        Check.due("the only one", x.answers(0), 2000);
        Check.due("one behind it", x.answers(1), -2);
        Check.due("as far as can be", x.answers(Integer.MAX_VALUE), -2);
        LastLoses empty = Check.told(Check.TWO);
        Check.due("of an empty hand", empty.answers(0), -2);
    }

    private static void otherK() {
        LastLoses x = Check.told(Check.TWO, 2);
        Check.none("answers", x.answers(-2), x.answers(-3), x.answers(Integer.MIN_VALUE));
    }

    private static void withoutGame() {
        LastLoses x = new LastLoses();
        Check.none("answers", x.answers(0), x.answers(-1), x.answers(-2), x.answers(Integer.MAX_VALUE));
    }
}
