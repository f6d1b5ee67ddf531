/** Promise 2: feed. */
public final class Promise02Test {
    private static final int OCTA = 0x6f637461;
    private static final int L_POINT_3 = 0x6c202e33;
    private static final int BLANKS = 0x20202020;

    public static void main(String[] args) {
        Sentences of = Sentences.ofPromise(2, args);
        of.hold("Twenty bytes come behind the TAPE", Promise02Test::twentyBytesBehind);
        of.hold("of each number the highest first", Promise02Test::highestFirst);
        of.hold("of each number the highest first", Promise02Test::bytesAbove127);
        of.hold("how many it has", Promise02Test::howMany);
        of.hold("NONE, and none comes, if it would have more than 200", Promise02Test::moreThan200);
        of.hold("NONE, and none comes, if it would have more than 200", Promise02Test::noneComes);
        of.finish();
    }

    private static void twentyBytesBehind() {
        LastLoses x = new LastLoses();
        x.feed(BLANKS, BLANKS, BLANKS, BLANKS, BLANKS);
        Check.due("a text of twenty blanks ends at 20", x.game(), -2 - (8 * 20 + 1));
        x.feed(OCTA, L_POINT_3, 0, 0, 0);
        Check.due("bytes of 0 come, too", x.game(), -2 - (8 * 8 + 1));
        x.feed(0x6f637400, -1, -1, -1, -1);
        x.end(3);
        x.feed(0x616c202e, 0x33202020, BLANKS, BLANKS, BLANKS);
        Check.due("behind the three that were left", x.game(), 1);
    }

    private static void highestFirst() {
        LastLoses x = new LastLoses();
        // "octal .3;also 5 to 2" and " 1"
        x.feed(OCTA, L_POINT_3, 0x3b616c73, 0x6f203520, 0x746f2032);
        x.feed(0x20310000, 0, 0, 0, 0);
        x.end(22);
        Check.due("two lines", x.game(), 2);
        Check.due("the code's move and one more", x.moves(5), 2);
        Check.due("to 1", x.option(5, 1, 0), 1);
        Check.due("and 2", x.option(5, 1, 1), 2);
    }

    private static void bytesAbove127() {
        LastLoses x = new LastLoses();
        x.feed(OCTA, L_POINT_3, 0x20ff2020, BLANKS, BLANKS);
        Check.due("255 at 9", x.game(), -2 - (8 * 9 + 1));
        x.feed(OCTA, L_POINT_3, 0x20202080, BLANKS, BLANKS);
        Check.due("128 at 11", x.game(), -2 - (8 * 11 + 1));
        x.feed(0xef637461, L_POINT_3, BLANKS, BLANKS, BLANKS);
        Check.due("239 at 0", x.game(), -2 - 1);
    }

    private static void howMany() {
        LastLoses x = new LastLoses();
        for (int i = 1; i <= 10; i++) {
            Check.due("feed " + i, x.feed(i, -i, Integer.MIN_VALUE, Integer.MAX_VALUE, 0), 20 * i);
            Check.due("count " + i, x.count(5), 20 * i);
        }
        x.end(7);
        Check.due("behind seven", x.feed(0, 0, 0, 0, 0), 27);
    }

    private static void moreThan200() {
        LastLoses x = new LastLoses();
        for (int i = 0; i < 9; i++) {
            x.feed(0, 0, 0, 0, 0);
        }
        Check.due("just 200", x.feed(0, 0, 0, 0, 0), 200);
        Check.due("220", x.feed(0, 0, 0, 0, 0), -1);
        x.end(181);
        Check.due("201", x.feed(0, 0, 0, 0, 0), -1);
        Check.due("181 still", x.count(5), 181);
        x.end(180);
        Check.due("just 200 again", x.feed(0, 0, 0, 0, 0), 200);
    }

    private static void noneComes() {
        LastLoses x = Check.told(Check.KAYLES, 3, 5);
        x.keep(0);
        x.feed(OCTA, L_POINT_3, BLANKS, BLANKS, BLANKS);
        for (int i = 0; i < 9; i++) {
            x.feed(BLANKS, BLANKS, BLANKS, BLANKS, BLANKS);
        }
        Check.refused(x, "a full tape", -1, () -> x.feed(-1, -1, -1, -1, -1), () -> x.feed(0, 0, 0, 0, 0));
        Check.due("the text of 200 bytes is what it was", x.game(), 1);
        Check.due("its digits", x.count(0), 1);
    }
}
