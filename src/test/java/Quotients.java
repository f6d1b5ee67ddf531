/** What the tests of quotients share: games whose quotients stand just at a limit. */
final class Quotients {
    /** Quotient 5 has a WORD of 10 BEANS, so 15 with a HEAP of 5 more; quotient 6 would need 16. */
    static final String KAYLES = Check.KAYLES;
    /** Quotient 6 has just 16 ELEMENTS. */
    static final String SIXTEEN = "octal .3354;also 6 to 2 2;never 4 1;never 6 2";
    /** Quotient 6 would have just 17 ELEMENTS, and no WORD near 15 BEANS. */
    static final String SEVENTEEN = "octal .314363;never 5 1";
    /** Quotients 5 and 6 are not STEADY. */
    static final String UNSTEADY = "octal .56";

    private Quotients() {
    }

    /** A quotient n that is UNKNOWN. */
    static LastLoses unknown() {
        return Check.told(KAYLES);
    }

    static final int UNKNOWN = 6;
}
