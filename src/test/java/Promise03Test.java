/** Promise 3: end. */
public final class Promise03Test {
    public static void main(String[] args) {
        Sentences of = Sentences.ofPromise(3, args);
        of.hold("The TAPE has its first n bytes alone: n", Promise03Test::firstBytesAlone);
        of.hold("The TAPE has its first n bytes alone: n", Promise03Test::allOrNone);
        of.hold("NONE, and nothing happens, if it has not so many", Promise03Test::notSoMany);
        of.hold("or n is below 0", Promise03Test::below0);
        of.finish();
    }

    // "octal .37" and eleven bytes of "x"
    private static void feedText(LastLoses x) {
        x.feed(0x6f637461, 0x6c202e33, 0x37787878, 0x78787878, 0x78787878);
    }

    private static void firstBytesAlone() {
        LastLoses x = new LastLoses();
        feedText(x);
        Check.due("nine", x.end(9), 9);
        Check.due("count", x.count(5), 9);
        Check.due("the text without what was behind it", x.game(), 1);
        Check.due("two digits", x.count(0), 2);
        feedText(x);
        Check.due("nine again", x.end(9), 9);
        Check.due("eight", x.end(8), 8);
        Check.due("what is cut off does not come back", x.end(9), -1);
        Check.due("the shorter text", x.game(), 1);
        Check.due("one digit", x.count(0), 1);
    }

    private static void allOrNone() {
        LastLoses x = new LastLoses();
        Check.due("none of none", x.end(0), 0);
        feedText(x);
        Check.due("all of them", x.end(20), 20);
        Check.due("20 still", x.count(5), 20);
        Check.due("none of them", x.end(0), 0);
        Check.due("0 then", x.count(5), 0);
        for (int i = 0; i < 10; i++) {
            feedText(x);
        }
        Check.due("all of 200", x.end(200), 200);
        Check.due("199", x.end(199), 199);
    }

    private static void notSoMany() {
        LastLoses x = Check.told(Check.KAYLES, 4);
        Check.refused(x, "an empty tape", -1, () -> x.end(1), () -> x.end(Integer.MAX_VALUE));
        feedText(x);
        x.end(8);
        Check.refused(x, "of eight", -1, () -> x.end(9), () -> x.end(20), () -> x.end(Integer.MAX_VALUE));
        Check.due("the text is what it was", x.game(), 1);
        Check.due("one digit", x.count(0), 1);
    }

    private static void below0() {
        LastLoses x = Check.told(Check.KAYLES, 4);
        feedText(x);
        x.end(9);
        Check.refused(x, "below", -1, () -> x.end(-1), () -> x.end(Integer.MIN_VALUE));
        Check.due("the text is what it was", x.game(), 1);
        Check.due("two digits", x.count(0), 2);
    }
}
