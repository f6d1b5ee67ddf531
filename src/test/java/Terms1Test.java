/** Terms, part I: the text of a GAME, its MOVES, and the FAULT of a text that is none. */
public final class Terms1Test {
    public static void main(String[] args) {
        Sentences of = Sentences.ofTerms("A GAME is told by a text", " ==== II.", args);
        text(of);
        moves(of);
        faults(of);
        of.finish();
    }

    private static void text(Sentences of) {
        of.hold("A GAME is told by a text of at most 200 bytes:", Terms1Test::of200Bytes);
        of.hold("LINE { ; LINE }, 16 at most:", Terms1Test::sixteenLines);
        of.hold("octal . DIGITS (1 to 8 digits, each 0 to 7, as far as digits go on;", Terms1Test::digits);
        of.hold("once, the first LINE) |", Terms1Test::octalOnceAndFirst);
        of.hold("also NUMBER to NUMBER [ NUMBER ] |", Terms1Test::alsoLine);
        of.hold("never NUMBER NUMBER.", Terms1Test::neverLine);
        of.hold("NUMBERS are of 1 to 3 digits, as far as digits go on;", Terms1Test::numbers);
        of.hold("words are small letters, as far as these go on;", Terms1Test::words);
        of.hold("blanks (32) stand between as one likes.", Terms1Test::blanks);
    }

    private static void moves(Sentences of) {
        of.hold("A HEAP is of 1 to 12 BEANS.", Terms1Test::heapOf1To12);
        of.hold("MOVES of a HEAP of h: to A and B, 0 to B each (A at most B; 0 is no HEAP), A + B below h:",
                Terms1Test::partsBelowHeap);
        of.hold("by the code, if k, that is h - A - B, is no more than there are DIGITS,", Terms1Test::noMoreThanDigits);
        of.hold("and the k-th one holds 1 (for A and B 0), 2 (for A 0 and B above 0), 4 (for both above 0) "
                + "as a sum of these,", Terms1Test::sumOfThese);
        of.hold("but not, if never h k was told;", Terms1Test::neverTold);
        of.hold("or, whatever else, if also h to A B, or h to B A (without the second one 0) was told.",
                Terms1Test::alsoTold);
        of.hold("(also: h 1 to 12, the next NUMBER below h, with the last one together below h;", Terms1Test::alsoNumbers);
        of.hold("never: h 1 to 12, k 1 to 8.)", Terms1Test::neverNumbers);
        of.hold("MOVES are in the order of A + B, the greatest first, of like ones the least A first.",
                Terms1Test::orderOfMoves);
    }

    private static void faults(Sentences of) {
        of.hold("FAULT of a text that is none: of the first place along it that is wrong (0 the first byte), "
                + "8 times the place and:", Terms1Test::firstPlace);
        of.hold("1 a byte or word that can't stand there,", Terms1Test::cantStand);
        of.hold("or the text ends (the place behind its last byte);", Terms1Test::textEnds);
        of.hold("2 a NUMBER (where it begins) of more digits, or not as told;", Terms1Test::wrongNumber);
        of.hold("3 in DIGITS an 8 or 9, or a ninth digit (at it);", Terms1Test::wrongDigit);
        of.hold("4 a LINE (where it begins) that would be the seventeenth, a second octal, "
                + "or another one ahead of octal.", Terms1Test::wrongLine);
        of.hold("Of one place the least.", Terms1Test::leastOfOnePlace);
        of.hold("(A place that can't be read at all is 1: also for a LINE that begins with no such word.)",
                Terms1Test::cantBeRead);
    }

    private static final String SIXTEEN = "octal .3" + ";never 1 1".repeat(15);

    private static void of200Bytes() {
        Check.lines(" ".repeat(192) + "octal .3", 1);
        Check.lines("octal .3" + " ".repeat(192), 1);
        Check.lines(SIXTEEN + " ".repeat(200 - SIXTEEN.length()), 16);
    }

    private static void sixteenLines() {
        Check.lines("octal .3", 1);
        Check.lines("octal .3;never 1 1;also 1 to 0", 3);
        Check.lines(SIXTEEN, 16);
        Check.fault(SIXTEEN + ";never 1 1", SIXTEEN.length() + 1, 4);
    }

    private static void digits() {
        Check.lines("octal .0", 1);
        Check.lines("octal .7", 1);
        Check.lines("octal .01234567", 1);
        Check.fault("octal .", 7, 1);
        Check.fault("octal .;", 7, 1);
        Check.fault("octal .012345670", 15, 3);
        Check.fault("octal .3 3", 9, 1);
    }

    private static void octalOnceAndFirst() {
        Check.fault("octal .3;octal .3", 9, 4);
        Check.fault("octal .3;never 1 1;octal .3", 19, 4);
        Check.fault("never 1 1;octal .3", 0, 4);
    }

    private static void alsoLine() {
        Check.lines("octal .3;also 3 to 2", 2);
        Check.lines("octal .3;also 3 to 1 1", 2);
        Check.lines("octal .3;also 3 to 0 0;also 3 to 0", 3);
        Check.fault("octal .3;also 3 to 1 1 0", 23, 1);
        Check.fault("octal .3;also to 1", 14, 1);
        Check.fault("octal .3;also 3 1", 16, 1);
        Check.fault("octal .3;also 3 to;never 1 1", 18, 1);
    }

    private static void neverLine() {
        Check.lines("octal .3;never 3 1", 2);
        Check.fault("octal .3;never 3", 16, 1);
        Check.fault("octal .3;never 3;never 3 1", 16, 1);
        Check.fault("octal .3;never 3 1 1", 19, 1);
        Check.fault("octal .3;never 3 to 1", 17, 1);
        Check.fault("octal .3;never;", 14, 1);
    }

    private static void numbers() {
        Check.lines("octal .3;never 012 008", 2);
        Check.lines("octal .3;also 001 to 000 000", 2);
        Check.fault("octal .3;never 0012 8", 15, 2);
        Check.fault("octal .3;never 12 0008", 18, 2);
        Check.fault("octal .3;also 0003 to 1", 14, 2);
        Check.fault("octal .3;also 3 to 0001", 19, 2);
        Check.fault("octal .3;also 3 to 1 0001", 21, 2);
        // 1 2 would do, but the digits go on
        Check.fault("octal .3;never 12", 17, 1);
        Check.fault("octal .3;never 99999999999999999999 1", 15, 2);
    }

    private static void words() {
        Check.fault("octals .3", 0, 1);
        Check.fault("octa .3", 0, 1);
        Check.fault("octal .3;alsos 3 to 1", 9, 1);
        Check.fault("octal .3;als 3 to 1", 9, 1);
        Check.fault("octal .3;nevers 3 1", 9, 1);
        Check.fault("octal .3;also 3 tos 1", 16, 1);
        Check.fault("octal .3;also 3 t 1", 16, 1);
        Check.fault("Octal .3", 0, 1);
        Check.fault("octala.3", 0, 1);
        Check.fault("octalz.3", 0, 1);
        // the word ends where small letters do
        Check.fault("octalX.3", 5, 1);
        Check.fault("octal`.3", 5, 1);
        Check.fault("octal{.3", 5, 1);
        Check.fault("octal\u00e9.3", 5, 1);
        Check.fault("octa", 0, 1);
        Check.lines("octal.3;also3to1;never3 1", 3);
    }

    private static void blanks() {
        Check.lines("octal.3;also3to1 1;never3 1", 3);
        Check.lines("  octal  .  3  ;  also  3  to  1  1  ;  never  3  1  ", 3);
        Check.fault("oc tal .3", 0, 1);
        Check.fault("octal\t.3", 5, 1);
        Check.fault("octal\n.3", 5, 1);
        Check.fault("octal\u00a0.3", 5, 1);
        Check.fault("octal .3;never 1 1\0", 18, 1);
    }

    private static void heapOf1To12() {
        LastLoses x = Check.told(Check.TAKE_ONE);
        Check.due("1", x.moves(1), 1);
        Check.due("12", x.moves(12), 1);
        Check.none("none of 0 and 13", x.moves(0), x.moves(13), x.put(0), x.put(13));
    }

    private static void moves(String text, int heap, int... parts) {
        LastLoses x = Check.told(text);
        String what = text + " of " + heap;
        Check.due(what + " moves", x.moves(heap), parts.length / 2);
        for (int k = 0; k < parts.length / 2; k++) {
            Check.due(what + " move " + k + " A", x.option(heap, k, 0), parts[2 * k]);
            Check.due(what + " move " + k + " B", x.option(heap, k, 1), parts[2 * k + 1]);
        }
    }

    private static void partsBelowHeap() {
        moves("octal .7", 1, 0, 0);
        moves("octal .7", 2, 0, 1);
        moves("octal .7", 3, 0, 2, 1, 1);
        moves("octal .7", 4, 0, 3, 1, 2);
        moves("octal .77777777", 3, 0, 2, 1, 1, 0, 1, 0, 0);
        LastLoses x = Check.told("octal .7", 3, 1);
        x.move(3, 0, 2);
        Check.heaps("a part of 0 is no heap", x::hand, 1, 2);
        x.move(1, 0, 0);
        Check.heaps("nor are two", x::hand, 2);
    }

    private static void noMoreThanDigits() {
        moves("octal .0003", 4, 0, 0);
        moves("octal .0003", 5, 0, 1);
        moves("octal .0003", 3);
        moves("octal .000", 4);
        moves("octal .00000007", 8, 0, 0);
        moves("octal .00000007", 7);
        moves("octal .00000007", 12, 0, 4, 1, 3, 2, 2);
    }

    private static void sumOfThese() {
        int[][] lone = {{}, {0, 0}, {}, {0, 0}, {}, {0, 0}, {}, {0, 0}};
        int[][] three = {{}, {}, {0, 2}, {0, 2}, {1, 1}, {1, 1}, {0, 2, 1, 1}, {0, 2, 1, 1}};
        for (int digit = 0; digit <= 7; digit++) {
            moves("octal ." + digit, 1, lone[digit]);
            moves("octal ." + digit, 3, three[digit]);
        }
    }

    private static void neverTold() {
        moves("octal .77;never 5 1", 5, 0, 3, 1, 2);
        moves("octal .77;never 5 2", 5, 0, 4, 1, 3, 2, 2);
        moves("octal .77;never 5 1;never 5 2", 5);
        moves("octal .77;never 5 1", 4, 0, 3, 1, 2, 0, 2, 1, 1);
        moves("octal .77;never 5 1", 6, 0, 5, 1, 4, 2, 3, 0, 4, 1, 3, 2, 2);
        moves("octal .77;never 5 8;never 5 3", 5, 0, 4, 1, 3, 2, 2, 0, 3, 1, 2);
        moves("octal .3;never 1 1", 1);
        moves("octal .00000003;never 12 8", 12);
    }

    private static void alsoTold() {
        moves("octal .0;also 5 to 1 3", 5, 1, 3);
        moves("octal .0;also 5 to 3 1", 5, 1, 3);
        moves("octal .0;also 5 to 3", 5, 0, 3);
        moves("octal .0;also 5 to 0 3", 5, 0, 3);
        moves("octal .0;also 5 to 0", 5, 0, 0);
        moves("octal .0;also 5 to 1 3;also 5 to 3 1", 5, 1, 3);
        moves("octal .3;also 5 to 4", 5, 0, 4);
        moves("octal .3;never 5 1;also 5 to 4", 5, 0, 4);
        moves("octal .3;also 5 to 4;never 5 1", 5, 0, 4);
        moves("octal .3;also 12 to 5 6;also 12 to 0", 12, 0, 11, 5, 6, 0, 0);
        moves("octal .3;also 12 to 5 6", 11, 0, 10);
        moves("octal .0;also 1 to 0", 1, 0, 0);
    }

    private static void alsoNumbers() {
        Check.lines("octal .3;also 1 to 0;also 12 to 11;also 12 to 0 11;also 12 to 11 0;also 12 to 5 6", 6);
        Check.fault("octal .3;also 0 to 0", 14, 2);
        Check.fault("octal .3;also 13 to 0", 14, 2);
        Check.fault("octal .3;also 999 to 0", 14, 2);
        Check.fault("octal .3;also 1 to 1", 19, 2);
        Check.fault("octal .3;also 12 to 12", 20, 2);
        Check.fault("octal .3;also 12 to 6 6", 22, 2);
        Check.fault("octal .3;also 12 to 11 1", 23, 2);
        Check.fault("octal .3;also 12 to 0 12", 22, 2);
        Check.fault("octal .3;also 1 to 0 1", 21, 2);
    }

    private static void neverNumbers() {
        Check.lines("octal .3;never 1 1;never 12 8;never 1 8;never 12 1", 5);
        Check.fault("octal .3;never 0 1", 15, 2);
        Check.fault("octal .3;never 13 1", 15, 2);
        Check.fault("octal .3;never 1 0", 17, 2);
        Check.fault("octal .3;never 1 9", 17, 2);
        Check.fault("octal .3;never 12 12", 18, 2);
    }

    private static void orderOfMoves() {
        moves("octal .77", 6, 0, 5, 1, 4, 2, 3, 0, 4, 1, 3, 2, 2);
        moves("octal .0;also 6 to 0;also 6 to 2 3;also 6 to 4 1;also 6 to 2;also 6 to 1 1", 6,
                1, 4, 2, 3, 0, 2, 1, 1, 0, 0);
    }

    private static void firstPlace() {
        Check.fault("", 0, 1);
        Check.fault("x", 0, 1);
        Check.fault("octal .39;also 99 to 99;x", 8, 3);
        Check.fault("octal .3;also 13 to x", 14, 2);
        Check.fault("octal .3;also 3 to 3 x", 19, 2);
        Check.fault("octal .3;x;octal .3", 9, 1);
        Check.fault("also 13 to 99;octal .9", 0, 4);
        Check.fault(" ".repeat(199) + "x", 199, 1);
    }

    private static void cantStand() {
        Check.fault("octal x.3", 6, 1);
        Check.fault("octal 3", 6, 1);
        Check.fault("octal ..3", 7, 1);
        Check.fault("octal .x", 7, 1);
        Check.fault("octal .-3", 7, 1);
        Check.fault("octal .3 x", 9, 1);
        Check.fault("octal .3x", 8, 1);
        Check.fault("octal .3 also 3 to 1", 9, 1);
        Check.fault("octal .3,also 3 to 1", 8, 1);
        Check.fault("octal .3;also x", 14, 1);
        Check.fault("octal .3;also 3 from 1", 16, 1);
        Check.fault("octal .3;also 3 to to", 19, 1);
        Check.fault("octal .3;also 3 to 1 to", 21, 1);
        Check.fault("octal .3;never x", 15, 1);
        Check.fault("octal .3;never 3 x", 17, 1);
        Check.fault("octal .3;never 3 1 x", 19, 1);
        Check.fault("octal .3;never -3 1", 15, 1);
    }

    private static void textEnds() {
        Check.fault("   ", 3, 1);
        Check.fault("octal", 5, 1);
        Check.fault("octal ", 6, 1);
        Check.fault("octal .", 7, 1);
        Check.fault("octal .   ", 10, 1);
        Check.fault("octal .3;", 9, 1);
        Check.fault("octal .3; ", 10, 1);
        Check.fault("octal .3;also", 13, 1);
        Check.fault("octal .3;also 3", 15, 1);
        Check.fault("octal .3;also 3 to", 18, 1);
        Check.fault("octal .3;never", 14, 1);
        Check.fault("octal .3;never 3 ", 17, 1);
        Check.fault("octal" + " ".repeat(195), 200, 1);
        Check.fault(" ".repeat(200), 200, 1);
    }

    private static void wrongNumber() {
        Check.fault("octal .3;never   1234 1", 17, 2);
        Check.fault("octal .3;never 000 1", 15, 2);
        Check.fault("octal .3;never 1 100", 17, 2);
        Check.fault("octal .3;also 100 to 1", 14, 2);
        Check.fault("octal .3;also 3 to   5", 21, 2);
        Check.fault("octal .3;also 3to3", 17, 2);
        Check.fault("octal .3;also 3 to 2 2", 21, 2);
    }

    private static void wrongDigit() {
        Check.fault("octal .8", 7, 3);
        Check.fault("octal .9", 7, 3);
        Check.fault("octal .78", 8, 3);
        Check.fault("octal .01234568", 14, 3);
        Check.fault("octal .012345671", 15, 3);
        Check.fault("octal .012345679", 15, 3);
        Check.fault("octal .8;also", 7, 3);
        Check.fault("octal .000000000000", 15, 3);
    }

    private static void wrongLine() {
        int behind = SIXTEEN.length();
        Check.fault(SIXTEEN + ";never 1 1", behind + 1, 4);
        Check.fault(SIXTEEN + ";  also 1 to 0", behind + 3, 4);
        Check.fault(SIXTEEN + ";also", behind + 1, 4);
        Check.fault(SIXTEEN + ";never 99 99", behind + 1, 4);
        Check.fault("octal .3;  octal .3", 11, 4);
        Check.fault("octal .3;octal", 9, 4);
        Check.fault("also 1 to 0", 0, 4);
        Check.fault("  never 1 1", 2, 4);
        Check.fault("also", 0, 4);
    }

    private static void leastOfOnePlace() {
        int behind = SIXTEEN.length();
        Check.fault(SIXTEEN + ";other", behind + 1, 1);
        Check.fault(SIXTEEN + ";", behind + 1, 1);
        Check.fault(SIXTEEN + ";  ", behind + 3, 1);
        Check.fault(SIXTEEN + ";;", behind + 1, 1);
        Check.fault(SIXTEEN + ";octal .3", behind + 1, 4);
        Check.fault("other 1 1", 0, 1);
    }

    private static void cantBeRead() {
        Check.fault("octal .3;3", 9, 1);
        Check.fault("octal .3;.3", 9, 1);
        Check.fault("octal .3;to", 9, 1);
        Check.fault("octal .3;;", 9, 1);
        Check.fault(";octal .3", 0, 1);
        Check.fault("\u00ff", 0, 1);
        Check.fault("octal .3;\u0080", 9, 1);
        Check.fault("octal .3;also 3 to \u00b2", 19, 1);
    }
}
