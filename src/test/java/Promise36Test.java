/** Promise 36: place. */
public final class Promise36Test {
    public static void main(String[] args) {
        Sentences of = Sentences.ofPromise(36, args);
        of.hold("The TAPE, which is empty then,", Promise36Test::tapeIsEmptyThen);
        of.hold("tells HEAPS, a byte each (1 to n): their PLACE", Promise36Test::placeOfNone);
        of.hold("tells HEAPS, a byte each (1 to n): their PLACE", Promise36Test::placeOfSome);
        of.hold("tells HEAPS, a byte each (1 to n): their PLACE", Promise36Test::placeOf200);
        of.hold("-2: a byte is none", Promise36Test::byteIsNone);
        of.hold("-2: a byte is none", Promise36Test::greatestHeap);
        of.hold("-3: UNKNOWN", Promise36Test::unknown);
        of.hold("NONE, and the TAPE stays, without these (n,", Promise36Test::withoutN);
        of.hold("a GAME", Promise36Test::withoutGame);
        of.finish();
    }

    private static int place(LastLoses x, int n, int... heaps) {
        byte[] bytes = new byte[heaps.length];
        for (int i = 0; i < heaps.length; i++) {
            bytes[i] = (byte) heaps[i];
        }
        Check.tell(x, bytes);
        return x.place(n);
    }

    private static void tapeIsEmptyThen() {
        LastLoses x = Check.told(Check.KAYLES, 3);
        Check.due("a place", place(x, 2, 2, 1), 3);
        Check.due("empty", x.count(5), 0);
        Check.due("a byte that is none", place(x, 2, 2, 3), -2);
        Check.due("empty, too", x.count(5), 0);
        Check.due("unknown", place(x, Quotients.UNKNOWN, 1), -3);
        Check.due("empty then, too", x.count(5), 0);
        Check.heaps("the hand stays", x::hand, 3);
    }

    private static void placeOfNone() {
        LastLoses x = Check.told(Check.KAYLES);
        for (int n = 1; n <= 5; n++) {
            Check.due("no heaps, of " + n, x.place(n), 0);
        }
    }

    private static void placeOfSome() {
        LastLoses x = Check.told(Check.KAYLES);
        Check.due("5 2 3", place(x, 5, 5, 2, 3), 11);
        Check.due("1", place(x, 1, 1), 1);
        Check.due("2 1 2", place(x, 2, 2, 1, 2), 5);
        Check.due("1 1", place(x, 5, 1, 1), 0);
    }

    private static void placeOf200() {
        int[] heaps = new int[200];
        java.util.Arrays.fill(heaps, 2);
        LastLoses x = Check.told(Check.TWO);
        Check.due("200 of 2", place(x, 2, heaps), 4);
        heaps[199] = 1;
        Check.due("199 of 2 and, last, 1", place(x, 2, heaps), 3);
        heaps[199] = 3;
        Check.due("the last is none", place(x, 2, heaps), -2);
    }

    private static void byteIsNone() {
        LastLoses x = Check.told(Check.TWO);
        Check.due("0", place(x, 6, 0), -2);
        Check.due("7 of 6", place(x, 6, 7), -2);
        Check.due("2 of 1", place(x, 1, 2), -2);
        Check.due("128", place(x, 6, 128), -2);
        Check.due("255", place(x, 6, 255), -2);
        Check.due("the first", place(x, 2, 3, 1, 1), -2);
        Check.due("the last", place(x, 2, 1, 1, 3), -2);
        x.feed(0x01010101, 0, 0, 0, 0);
        Check.due("bytes of 0 that feed brought", x.place(2), -2);
    }

    private static void greatestHeap() {
        LastLoses x = Check.told(Check.TAKE_ONE);
        for (int n = 1; n <= 6; n++) {
            Check.due(n + " of " + n, place(x, n, n), n % 2);
            Check.due(n + 1 + " of " + n, place(x, n, n + 1), -2);
        }
    }

    private static void unknown() {
        LastLoses x = Quotients.unknown();
        Check.due("no heaps", x.place(Quotients.UNKNOWN), -3);
        Check.due("1 2", place(x, Quotients.UNKNOWN, 1, 2), -3);
        LastLoses y = Check.told(Quotients.SEVENTEEN);
        Check.due("1", place(y, 6, 1), -3);
        Check.due("1 of fewer heaps", place(y, 5, 1), 1);
    }

    private static void withoutN() {
        LastLoses x = Check.told(Check.TWO, 4);
        Check.tell(x, new byte[] {2, 1, 2});
        Check.refused(x, "place", -1, () -> x.place(0), () -> x.place(7), () -> x.place(-1),
                () -> x.place(Integer.MIN_VALUE), () -> x.place(Integer.MAX_VALUE));
        Check.due("the tape is what it was", x.place(2), 5);
    }

    private static void withoutGame() {
        LastLoses x = new LastLoses();
        Check.tell(x, Check.TWO.getBytes(java.nio.charset.StandardCharsets.ISO_8859_1));
        Check.refused(x, "place", -1, () -> x.place(1), () -> x.place(6), () -> x.place(0));
        Check.due("the tape is what it was", x.game(), 1);
        Check.due("digits", x.count(0), 2);
    }
}
