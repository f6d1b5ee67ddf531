/** Terms, part IV: QUOTIENTS. */
public final class Terms4Test {
    public static void main(String[] args) {
        Sentences of = Sentences.ofTerms("QUOTIENT n (1 to 6)", " The constants: ", args);
        elements(of);
        steps(of);
        proofs(of);
        sets(of);
        of.finish();
    }

    private static void elements(Sentences of) {
        of.hold("QUOTIENT n (1 to 6), of HEAPS 1 to n.", Terms4Test::oneToSix);
        of.hold("TESTS: POSITIONS of these of at most 7 BEANS.", Terms4Test::tests);
        of.hold("The MARK of a POSITION: with which TESTS beside it LOSES.", Terms4Test::marks);
        of.hold("ELEMENTS, from 0 on, each with a WORD (a POSITION of HEAPS 1 to n): 0 with the empty one.",
                Terms4Test::elementOfNone);
        of.hold("One by one, from the first on, the WORD with a HEAP of 1 to n more, one by one: "
                + "has it the MARK of no ELEMENT so far, it is the WORD of a new one;", Terms4Test::oneByOne);
        of.hold("NEXT of the ELEMENT and that HEAP is the one with that MARK.", Terms4Test::next);
        of.hold("Would such a WORD have more than 15 BEANS,", Terms4Test::moreThan15Beans);
        of.hold("or a 17th ELEMENT come, the QUOTIENT is UNKNOWN.", Terms4Test::seventeenthElement);
    }

    private static void steps(Sentences of) {
        of.hold("LOST are ELEMENTS whose WORDS LOSE.", Terms4Test::lost);
        of.hold("TIMES of e and f: from e on NEXT of all HEAPS of the WORD of f, the least first.", Terms4Test::times);
        of.hold("It is STEADY, if of each ELEMENT, and HEAPS g and h, NEXT by g, then by h is NEXT by h, then by g.",
                Terms4Test::steady);
        of.hold("The PLACE of HEAPS: from 0 on NEXT of these, the least first.", Terms4Test::place);
    }

    private static void proofs(Sentences of) {
        of.hold("PAIRS of an ELEMENT and a set of ELEMENTS: 0 and none;", Terms4Test::firstPair);
        of.hold("of a PAIR e and S, with a HEAP h: NEXT of e and h, and the set of all NEXT of S's and h, "
                + "and all that e comes to by NEXT of A, then of B (those above 0) for MOVES of h.", Terms4Test::pairs);
        of.hold("All that come so; more than 2000 are UNKNOWN.", Terms4Test::manyPairs);
        of.hold("It is PROVED, if it is STEADY, PAIRS are not UNKNOWN, and of each PAIR: has its set none, "
                + "its ELEMENT is not LOST; else it is LOST just if none of its set is.", Terms4Test::proved);
        of.hold("(Then HEAPS 1 to n, however many, LOSE just if their PLACE is LOST.)", Terms4Test::decides);
        of.hold("(Of several answers: NONE for n, a HEAP, what first; then -3; then NONE for an ELEMENT.)",
                Terms4Test::severalAnswers);
    }

    private static void sets(Sentences of) {
        of.hold("POWER of e: e, e TIMES e, that TIMES e, and on: the first that comes a second time: "
                + "as the how manieth (1 and on) it came first, and how many later again.", Terms4Test::power);
        of.hold("KERNEL: all f so that for each e there is a g with e TIMES g being f.", Terms4Test::kernel);
        of.hold("UNITS: all e so that there is a g with e TIMES g being 0.", Terms4Test::units);
        of.hold("IDLE: all e that are e TIMES e.", Terms4Test::idle);
        of.hold("STAYS: the greatest m from n to 6, so that the QUOTIENTS n to m are all known and alike:",
                Terms4Test::staysUpTo6);
        of.hold("as many ELEMENTS, LOST alike, NEXT by HEAPS 1 to n alike.", Terms4Test::alike);
    }

    private static void elementCounts(String game, int... want) {
        LastLoses x = Check.told(game);
        for (int n = 1; n <= 6; n++) {
            Check.due(game + " elements of " + n, x.elements(n), want[n - 1]);
        }
    }

    private static void oneToSix() {
        elementCounts(Check.NO_MOVES, 1, 1, 1, 1, 1, 1);
        elementCounts(Check.TAKE_ONE, 2, 2, 2, 2, 2, 2);
        elementCounts(Check.TWO, 2, 6, 6, 6, 6, 6);
        LastLoses x = Check.told(Check.TWO);
        Check.none("0 and 7", x.elements(0), x.elements(7));
    }

    private static void tests() {
        // tests of 8 beans would make 6 of these 4, those of at most 6 beans leave 8 of these 9
        Check.due("not of 8 beans", Check.told(Check.DAWSON).elements(4), 4);
        Check.due("of 7 beans, too", Check.told("octal .64").elements(5), 9);
        // a test of a heap of 4 would make 10 of these 6, and of these 6 without one of 3 there are 3
        Check.due("not of greater heaps", Check.told("octal .35").elements(3), 6);
        Check.due("of heaps of n, too", Check.told("octal .6").elements(3), 6);
    }

    private static void marks() {
        // 1 1 loses and wins with what none does, so it is none
        LastLoses x = Check.told(Check.TAKE_ONE);
        Check.due("1 1 is like none", x.next(1, 1, 1), 0);
        // 1 and 2 2 both lose, but with other tests
        LastLoses y = Check.told(Check.TWO);
        Check.due("1", y.next(2, 0, 1), 1);
        Check.due("2 2", y.next(2, 2, 2), 4);
    }

    private static void elementOfNone() {
        for (String game : new String[] {Check.NO_MOVES, Check.KAYLES, Quotients.SIXTEEN}) {
            LastLoses x = Check.told(game);
            for (int heap = 0; heap <= 5; heap++) {
                Check.due(game + " heap " + heap, x.word(5, 0, heap), 0);
            }
        }
    }

    private static void oneByOne() {
        LastLoses x = Check.told(Check.KAYLES);
        int[][] words = {{}, {1}, {2}, {3}, {5}, {1, 5}, {2, 2}, {2, 3}, {2, 5}, {3, 5}, {2, 2, 5}, {2, 3, 5}};
        for (int e = 0; e < words.length; e++) {
            int[] counts = new int[6];
            for (int heap : words[e]) {
                counts[heap]++;
                counts[0] += heap;
            }
            for (int heap = 0; heap <= 5; heap++) {
                Check.due("word of " + e + ", heap " + heap, x.word(5, e, heap), counts[heap]);
            }
        }
    }

    private static void next() {
        LastLoses x = Check.told(Check.TWO);
        int[][] next = {{1, 2, 0}, {0, 3, 1}, {3, 4, 2}, {2, 5, 3}, {5, 2, 4}, {4, 3, 5}};
        for (int e = 0; e < 6; e++) {
            for (int heap = 1; heap <= 3; heap++) {
                Check.due("of " + e + " and " + heap, x.next(3, e, heap), next[e][heap - 1]);
            }
        }
    }

    private static void moreThan15Beans() {
        LastLoses x = Check.told(Quotients.KAYLES);
        // 2 3 5 and a heap of 5 more
        Check.due("15 beans", x.elements(5), 12);
        Check.due("10 beans of the last word", x.word(5, 11, 0), 10);
        // 2 3 5 and a heap of 6 more
        Check.due("16 beans", x.elements(6), -3);
    }

    private static void seventeenthElement() {
        Check.due("just sixteen", Check.told(Quotients.SIXTEEN).elements(6), 16);
        LastLoses x = Check.told(Quotients.SEVENTEEN);
        Check.due("one more", x.elements(6), -3);
        Check.due("and so for all that is asked of it", x.sets(6, 0), -3);
        Check.due("but not of fewer heaps", x.sets(5, 0), 1290);
    }

    private static void lost() {
        Check.due("none is lost", Check.told(Check.NO_MOVES).sets(6, 0), 0);
        Check.due("1 is", Check.told(Check.TAKE_ONE).sets(6, 0), 2);
        Check.due("1 and 2 2 are", Check.told(Check.TWO).sets(2, 0), 18);
        Check.due("1, 1 5 and 2 2 are", Check.told(Check.KAYLES).sets(5, 0), 98);
    }

    private static void times() {
        LastLoses x = Check.told(Quotients.UNSTEADY);
        // the word of 8 is 1 3 3; from the greatest on it would be 5
        Check.due("3 times 8", x.times(5, 3, 8), 3);
        Check.due("8 times 3", x.times(5, 8, 3), 5);
        Check.due("3 times 0", x.times(5, 3, 0), 3);
        Check.due("0 times 8", x.times(5, 0, 8), 8);
    }

    private static void steady() {
        LastLoses x = Check.told(Quotients.UNSTEADY);
        Check.due("steady", x.proved(4), 2);
        Check.due("not steady", x.proved(5), 0);
        Check.due("7 by 1, then by 5", x.next(5, x.next(5, 7, 1), 5), 2);
        Check.due("7 by 5, then by 1", x.next(5, x.next(5, 7, 5), 1), 4);
    }

    private static void place() {
        LastLoses x = Check.told("octal .334347;never 3 2");
        Check.due("from the greatest on", x.next(4, x.next(4, x.next(4, 0, 4), 2), 1), 3);
        for (byte[] heaps : new byte[][] {{1, 2, 4}, {4, 2, 1}, {2, 4, 1}, {4, 1, 2}}) {
            Check.tell(x, heaps);
            Check.due("place " + java.util.Arrays.toString(heaps), x.place(4), 6);
        }
    }

    private static void firstPair() {
        Check.due("alone", Check.told(Check.NO_MOVES).pairs(6), 1);
    }

    private static void pairs() {
        // 0 and none; 1 and {0}; 0 and {1}
        Check.due("take one", Check.told(Check.TAKE_ONE).pairs(1), 3);
        LastLoses x = Check.told(Check.TWO);
        int[] want = {3, 12, 16, 24, 24, 24};
        for (int n = 1; n <= 6; n++) {
            Check.due("two at most, " + n, x.pairs(n), want[n - 1]);
        }
        LastLoses kayles = Check.told(Check.KAYLES);
        Check.due("Kayles 4", kayles.pairs(4), 16);
        Check.due("Kayles 5", kayles.pairs(5), 48);
        Check.due(".75 of 6", Check.told("octal .75").pairs(6), 29);
    }

    // no game was found that has more of them: see NOTES.md
    private static void manyPairs() {
        LastLoses x = Check.told("octal.374300;never3 2;also4to1 2;never6 2;never5 3;never5 5;also6to4 1;also4to2"
                + ";also6to3 2;never4 2;also5to0 2;also1to0;also1to0;also2to1;never4 2");
        Check.due("many", x.pairs(6), 739);
    }

    private static void proved() {
        Check.due("proved", Check.told(Check.TWO).proved(6), 2);
        Check.due("its only set has none", Check.told(Check.NO_MOVES).proved(6), 2);
        Check.due("steady, but a pair does not fit", Check.told(Check.DAWSON).proved(4), 1);
        Check.due("not steady", Check.told(Quotients.UNSTEADY).proved(5), 0);
    }

    private static void decides() {
        LastLoses x = Check.told(Check.KAYLES);
        Check.tell(x, new byte[] {5, 5, 5, 1});
        Check.due("5 5 5 1 is where 1 5 is, which is lost", x.place(5), 5);
        Check.put(x, 5, 5, 5, 1);
        Check.due("and loses", x.state(0), 0);
        byte[] many = new byte[200];
        java.util.Arrays.fill(many, (byte) 5);
        Check.tell(x, many);
        Check.due("two hundred of 5 are none, which is not lost", x.place(5), 0);
    }

    private static void severalAnswers() {
        LastLoses x = Quotients.unknown();
        int n = Quotients.UNKNOWN;
        Check.none("n first", x.word(7, 99, 99), x.next(0, -1, 0), x.times(7, 99, 99), x.power(0, 99, 9), x.sets(7, 9));
        Check.none("a heap first", x.word(n, 99, 7), x.next(n, 99, 7), x.next(n, 0, 0));
        Check.none("what first", x.sets(n, 4), x.power(n, 99, 2), x.power(n, 0, -1));
        int[] unknown = {x.word(n, 99, 0), x.next(n, -1, 1), x.times(n, 99, 0), x.times(n, 0, 99), x.power(n, 99, 0)};
        for (int i = 0; i < unknown.length; i++) {
            Check.due("then -3, call " + i, unknown[i], -3);
        }
        Check.none("then an element", x.word(5, 12, 0), x.next(5, -1, 1), x.times(5, 12, 0), x.times(5, 0, 12),
                x.power(5, 12, 0));
    }

    private static void power() {
        LastLoses x = Check.told("octal .75");
        int[] first = {1, 1, 1, 2, 1, 2, 1, 1};
        int[] later = {1, 2, 2, 2, 2, 1, 1, 2};
        for (int e = 0; e < 8; e++) {
            Check.due("first of " + e, x.power(5, e, 0), first[e]);
            Check.due("later of " + e, x.power(5, e, 1), later[e]);
        }
        LastLoses four = Check.told(Check.DAWSON);
        Check.due("four later", four.power(4, 2, 1), 4);
        LastLoses third = Check.told("octal .3164;also 5 to 3;also 5 to 1 3");
        Check.due("the third", third.power(5, 5, 0), 3);
        Check.due("two later", third.power(5, 5, 1), 2);
        Check.due("the third of the last", third.power(5, 15, 0), 3);
        Check.due("one later", third.power(5, 15, 1), 1);
    }

    private static void kernel() {
        Check.due("all", Check.told(Check.TAKE_ONE).sets(1, 1), 3);
        Check.due("without 0 and 1", Check.told(Check.TWO).sets(2, 1), 60);
        Check.due(".75", Check.told("octal .75").sets(5, 1), 212);
    }

    private static void units() {
        Check.due("0 alone", Check.told(Check.NO_MOVES).sets(1, 2), 1);
        Check.due("0 and 1", Check.told(Check.TWO).sets(2, 2), 3);
        Check.due("0, 1, 5, 1 5", Check.told(Check.KAYLES).sets(5, 2), 51);
    }

    private static void idle() {
        Check.due("0 alone", Check.told(Check.TAKE_ONE).sets(1, 3), 1);
        Check.due("0 and 2 2", Check.told(Check.TWO).sets(2, 3), 17);
        Check.due("sixteen elements", Check.told(Quotients.SIXTEEN).sets(6, 3), 1041);
    }

    private static void staysUpTo6() {
        Promise34Test.stays(Check.TAKE_ONE, 6, 6, 6, 6, 6, 6);
        Promise34Test.stays(Check.KAYLES, 1, 4, 4, 4, 5, -3);
        Promise34Test.stays("octal .7101", 1, 4, 4, 4, -3, 6);
    }

    private static void alike() {
        // 14 elements are not 6
        Promise34Test.stays(Quotients.SIXTEEN, 1, 4, 4, 4, 5, 6);
        // 2 elements are not 4, though as far as they go all is alike
        Promise34Test.stays("octal .4", 2, 2, 4, 4, 6, 6);
        // six and six elements, but others are lost
        LastLoses lost = Check.told(Quotients.SEVENTEEN);
        Check.due("as many", lost.elements(2), lost.elements(3));
        Check.due("lost of 2", lost.sets(2, 0), 18);
        Check.due("lost of 3", lost.sets(3, 0), 10);
        Check.due("so 2 stays at 2", lost.stays(2), 2);
        // as many, and lost alike, but not by the same heaps
        LastLoses next = Check.told("octal .31");
        Check.due("as many elements", next.elements(4), next.elements(3));
        Check.due("lost alike", next.sets(4, 0), next.sets(3, 0));
        Check.due("next is not", next.stays(3), 3);
    }
}
