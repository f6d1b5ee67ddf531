/** What DOC.md says ahead of the terms, and the constants. */
public final class HeadTest {
    public static void main(String[] args) {
        Sentences of = Sentences.ofTerms("An object is used for", " ## The public face", args);
        of.hold("An object is used for at most 512 calls after it has been made", HeadTest::the512thCall);
        of.hold("what later calls answer is free", HeadTest::laterCallsEnd);
        Sentences constants = Sentences.ofTerms("The constants: ", " ## Promise 1:", args);
        constants.hold("The constants: `NONE = -1`: None.", HeadTest::none);
        constants.close();
        of.finish();
    }

    private static void the512thCall() {
        LastLoses x = new LastLoses();
        x.feed(0x6f637461, 0x6c202e33, 0x33000000, 0, 0);
        x.end(9);
        x.game();
        for (int i = 0; i < 254; i++) {
            x.put(1 + i % 12);
            x.clear();
        }
        Check.due("the 512th, behind 3 and twice 254", x.count(3), 30);
        LastLoses y = new LastLoses();
        for (int i = 0; i < 511; i++) {
            y.draws(i);
        }
        Check.due("the 512th of another", y.draws(0), 510);
    }

    // free is what they answer, but none may fail to answer
    private static void laterCallsEnd() {
        LastLoses x = Check.told(Check.TWO);
        int calls = 0;
        for (int i = 0; i < 2000; i++) {
            x.put(1);
            x.reply();
            calls++;
        }
        Check.due("calls", calls, 2000);
    }

    private static void none() {
        Check.due("NONE", LastLoses.NONE, -1);
    }
}
