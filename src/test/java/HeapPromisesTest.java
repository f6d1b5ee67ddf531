/** Promises 5 to 10: moves, nimbers and the period; the first odd and wild positions. */
public final class HeapPromisesTest {
    private static final int[] KAYLES_ODD = {1, 5};
    private static final int[] DAWSON_ODD = {12};
    private static final int[] KAYLES_WILD = {5};
    private static final int[] DAWSON_WILD = {10};

    public static void main(String[] args) {
        movesByCode();
        movesMoreAndNever();
        knownNimbers();
        periods();
        odd();
        wild();
        Check.finish("HeapPromisesTest");
    }

    private static void moves(String text, int heap, int... parts) {
        LastLoses x = Check.told(text);
        String what = text + " heap " + heap;
        Check.due(what + " moves", x.moves(heap), parts.length / 2);
        for (int k = 0; k < parts.length / 2; k++) {
            Check.due(what + " move " + k + " A", x.option(heap, k, 0), parts[2 * k]);
            Check.due(what + " move " + k + " B", x.option(heap, k, 1), parts[2 * k + 1]);
        }
        Check.due(what + " move behind", x.option(heap, parts.length / 2, 0), -1);
        Check.due(what + " move below", x.option(heap, -1, 0), -1);
        Check.due(what + " part 2", x.option(heap, 0, 2), -1);
        Check.due(what + " part -1", x.option(heap, 0, -1), -1);
    }

    private static void movesByCode() {
        moves("octal .77", 1, 0, 0);
        moves("octal .77", 2, 0, 1, 0, 0);
        moves("octal .77", 5, 0, 4, 1, 3, 2, 2, 0, 3, 1, 2);
        moves("octal .07", 1);
        moves("octal .07", 2, 0, 0);
        moves("octal .1", 1, 0, 0);
        moves("octal .1", 2);
        moves("octal .2", 1);
        moves("octal .2", 2, 0, 1);
        moves("octal .4", 2);
        moves("octal .4", 3, 1, 1);
        moves("octal .4", 12, 1, 10, 2, 9, 3, 8, 4, 7, 5, 6);
        moves("octal .00000001", 8, 0, 0);
        moves("octal .00000001", 9);
        moves("octal .00000002", 12, 0, 4);
        LastLoses x = Check.told("octal .77777777");
        Check.due("most moves by code", x.moves(12), 36);
        for (int heap : new int[] {0, 13, -1, Integer.MIN_VALUE, Integer.MAX_VALUE}) {
            Check.due("moves " + heap, x.moves(heap), -1);
            Check.due("option " + heap, x.option(heap, 0, 0), -1);
            Check.due("nimber " + heap, x.nimber(heap), -1);
        }
        Check.due("option far", x.option(12, Integer.MAX_VALUE, 0), -1);
    }

    private static void movesMoreAndNever() {
        moves("octal .3;also 4 to 0", 4, 0, 3, 0, 0);
        moves("octal .3;also 4 to 2 1", 4, 0, 3, 1, 2);
        moves("octal .3;also 4 to 1 2", 4, 0, 3, 1, 2);
        moves("octal .3;also 4 to 1 2;also 4 to 2 1;also 4 to 3", 4, 0, 3, 1, 2);
        moves("octal .3;also 4 to 0 2;also 4 to 2 0", 4, 0, 3, 0, 2);
        moves("octal .3;never 4 1", 4);
        moves("octal .3;never 4 1", 3, 0, 2);
        moves("octal .77;never 5 1", 5, 0, 3, 1, 2);
        moves("octal .77;never 5 1;also 5 to 1 3", 5, 1, 3, 0, 3, 1, 2);
        moves("octal .77;also 5 to 1 3;never 5 1", 5, 1, 3, 0, 3, 1, 2);
        moves("octal .3;never 4 8", 4, 0, 3);
        moves("octal .0;also 12 to 5 6;also 12 to 11;also 12 to 0", 12, 0, 11, 5, 6, 0, 0);
    }

    private static void nimbers(String text, int... nimbers) {
        LastLoses x = Check.told(text);
        for (int heap = 1; heap <= 12; heap++) {
            Check.due(text + " nimber " + heap, x.nimber(heap), nimbers[heap - 1]);
        }
    }

    private static void knownNimbers() {
        nimbers("octal .77", 1, 2, 3, 1, 4, 3, 2, 1, 4, 2, 6, 4);
        nimbers("octal .07", 0, 1, 1, 2, 0, 3, 1, 1, 0, 3, 3, 2);
        nimbers("octal .137", 1, 1, 2, 0, 3, 1, 1, 0, 3, 3, 2, 2);
        nimbers("octal .33333333", 1, 2, 3, 4, 5, 6, 7, 8, 0, 1, 2, 3);
        nimbers("octal .0", 0, 0, 0, 0, 0, 0, 0, 0, 0, 0, 0, 0);
        nimbers("octal .33;also 3 to 0", 1, 2, 3, 0, 1, 2, 0, 1, 2, 0, 1, 2);
    }

    private static void period(String text, int p, int e) {
        LastLoses x = Check.told(text);
        Check.due(text + " p", x.period(0), p);
        Check.due(text + " e", x.period(1), e);
        Check.due(text + " other", x.period(2), -1);
        Check.due(text + " below", x.period(-1), -1);
    }

    private static void periods() {
        period("octal .3", 2, 1);
        period("octal .33", 3, 1);
        period("octal .33333333", 9, 1);
        period("octal .0", 1, 1);
        period("octal .1", 1, 2);
        period("octal .00000001", 1, 9);
        period("octal .7", 2, 1);
        // Guiles
        period("octal .15", 10, 1);
        period("octal .72", 4, 1);
        period("octal .123", 5, 5);
        period("octal .34", 8, 7);
        // 2 * 37 + 2 * 40 + 6 is just 160; with a digit more it is 161
        period("octal .534347", 40, 37);
        period("octal .5376760", -2, -2);
        period("octal .043", 60, 16);
        // Kayles and Dawson's Kayles: twelve behind 70, thirty-four behind 52, both too far
        period("octal .77", -2, -2);
        period("octal .07", -2, -2);
        period("octal .3;also 2 to 0", -3, -3);
        period("octal .3;never 12 8", -3, -3);
    }

    private static void odd() {
        LastLoses x = Check.told("octal .3");
        Check.due("take one is like nim", x.odd(0), -2);
        Check.due("and so for heaps", x.odd(12), -2);
        Check.heaps("Kayles", Check.told("octal .77")::odd, KAYLES_ODD);
        Check.heaps("Dawson's Kayles", Check.told("octal .07")::odd, DAWSON_ODD);
        LastLoses late = Check.told("octal .170;never 2 2", 1, 12);
        Check.due("1 and 12 are not like nim", late.state(5), 0);
        Check.due("but they are 13", late.odd(0), -2);
        for (int heap : new int[] {13, -1, Integer.MAX_VALUE, Integer.MIN_VALUE}) {
            Check.due("odd " + heap, x.odd(heap), -1);
            Check.due("wild " + heap, x.wild(heap), -1);
        }
    }

    private static void wild() {
        LastLoses x = Check.told("octal .33333333");
        Check.due("nim is tame", x.wild(0), -2);
        Check.heaps("Kayles wild", Check.told("octal .77")::wild, KAYLES_WILD);
        Check.heaps("Dawson's Kayles wild", Check.told("octal .07")::wild, DAWSON_WILD);
    }
}
