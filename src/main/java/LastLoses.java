import java.util.Arrays;

/** Games of heaps where the last mover loses, as ../shared/DOC.md tells them. */
public final class LastLoses {
    public static final int NONE = -1;

    private static final int NO_SUCH = -2;
    private static final int UNKNOWN = -3;
    private static final int BIGGEST = 12;
    private static final int MOST_BEANS = 22;
    private static final int MOST_KEPT = 3;
    private static final int MOST_DRAWN = 20;
    private static final int BASE = 13;
    private static final int HEAP_DIGIT = 1000;
    private static final int TEST_BEANS = 7;
    private static final int WORD_BEANS = 15;
    private static final int ODD_BEANS = 12;
    private static final int QUOTIENTS = 6;
    private static final int MOST_ELEMENTS = 16;

    private final Tape tape;
    private final Reader reader;
    // null till a first GAME is told: an object without one stays small
    private Board board;
    private int x;

    public LastLoses() {
        tape = new Tape();
        reader = new Reader(tape);
        x = 0;
    }

    public int feed(int a, int b, int c, int d, int e) {
        if (!tape.hasRoom()) {
            return NONE;
        }
        tape.append(a);
        tape.append(b);
        tape.append(c);
        tape.append(d);
        tape.append(e);
        return tape.size();
    }

    public int end(int n) {
        return tape.cutTo(n) ? n : NONE;
    }

    public int game() {
        int answer = reader.readText();
        tape.cutTo(0);
        if (answer > 0) {
            if (board == null) {
                board = new Board();
            }
            board.begin(reader);
        }
        return answer;
    }

    public int moves(int heap) {
        return board == null || !isHeap(heap) ? NONE : board.rules.moveCount(heap);
    }

    public int option(int heap, int k, int what) {
        if (board == null || !isHeap(heap) || what < 0 || what > 1) {
            return NONE;
        }
        int packed = board.rules.moveAt(heap, k);
        if (packed < 0) {
            return NONE;
        }
        return what == 0 ? packed / BASE : packed % BASE;
    }

    public int nimber(int heap) {
        return board == null || !isHeap(heap) ? NONE : board.rules.nimberOf(heap);
    }

    public int period(int what) {
        if (board == null || what < 0 || what > 1) {
            return NONE;
        }
        if (board.rules.extraLines() > 0) {
            return UNKNOWN;
        }
        return board.cycle.answer(board.rules, what);
    }

    public int odd(int heap) {
        if (board == null || !isHeapOrAll(heap)) {
            return NONE;
        }
        return tallyOrNoSuch(board.firstOdd(), heap);
    }

    public int wild(int heap) {
        if (board == null || !isHeapOrAll(heap)) {
            return NONE;
        }
        return tallyOrNoSuch(board.firstWild(), heap);
    }

    public int put(int heap) {
        if (board == null || !isHeap(heap)) {
            return NONE;
        }
        int then = board.positions.join(board.hand.position(), heap);
        if (then < 0) {
            return NONE;
        }
        board.hand.become(then);
        return board.positions.beansOf(then);
    }

    public int move(int heap, int a, int b) {
        if (board == null || !isHeap(heap) || !board.rules.isMove(heap, a, b)) {
            return NONE;
        }
        int rest = board.positions.without(board.hand.position(), heap);
        if (rest < 0) {
            return NONE;
        }
        int then = board.positions.joinMove(rest, BASE * a + b);
        board.hand.become(then);
        return board.values.loses(then) ? 0 : 1;
    }

    public int reply() {
        return board == null ? NONE : board.makeReply();
    }

    public int clear() {
        if (board == null || board.hand.position() == 0) {
            return NONE;
        }
        int had = board.positions.beansOf(board.hand.position());
        board.hand.become(0);
        return had;
    }

    public int undo() {
        return board == null ? NONE : board.hand.takeBack();
    }

    public int hand(int heap) {
        if (!isHeapOrAll(heap)) {
            return NONE;
        }
        return board == null ? 0 : board.positions.tally(board.hand.position(), heap);
    }

    public int state(int what) {
        return board == null ? NONE : board.values.stateOf(board.hand.position(), what);
    }

    public int genus(int k) {
        if (board == null || k < 0 || k > 2) {
            return NONE;
        }
        return board.values.genusOf(board.hand.position(), k);
    }

    public int line(int k) {
        return board == null || k < 0 ? NONE : board.lineMove(k);
    }

    public int losers(int beans, int heap) {
        boolean asked = heap == NONE || isHeap(heap);
        if (board == null || beans < 0 || beans > MOST_BEANS || !asked) {
            return NONE;
        }
        if (heap == NONE) {
            return board.values.countLosers(beans);
        }
        return tallyOrNoSuch(board.values.firstLoser(beans), heap);
    }

    public int keep(int k) {
        if (board == null || k < 0 || k >= MOST_KEPT) {
            return NONE;
        }
        board.hand.keepUnder(k);
        return board.positions.beansOf(board.hand.position());
    }

    public int apart(int k, int heap) {
        if (board == null || !isHeapOrAll(heap)) {
            return NONE;
        }
        int kept = board.hand.keptUnder(k);
        if (kept < 0) {
            return NONE;
        }
        if (!board.values.hasMark(kept) || !board.values.hasMark(board.hand.position())) {
            return UNKNOWN;
        }
        return tallyOrNoSuch(board.values.firstBetween(board.hand.position(), kept), heap);
    }

    public int simplest(int heap) {
        if (board == null || !isHeapOrAll(heap)) {
            return NONE;
        }
        if (!board.values.hasMark(board.hand.position())) {
            return UNKNOWN;
        }
        return tallyOrNoSuch(board.values.firstAlike(board.hand.position()), heap);
    }

    public int answers(int k) {
        return board == null || k < NONE ? NONE : board.answerAt(k);
    }

    public int draws(int x) {
        if (x < 0) {
            return NONE;
        }
        int was = this.x;
        this.x = x;
        return was;
    }

    public int games(int m, int what) {
        if (board == null || m < 1 || m > MOST_DRAWN || what < 0 || what > 1) {
            return NONE;
        }
        return board.drawGames(m, what, x);
    }

    public int elements(int n) {
        Quotient quotient = quotientOf(n);
        return quotient == null ? NONE : quotient.size();
    }

    public int word(int n, int element, int heap) {
        Quotient quotient = quotientOf(n);
        if (quotient == null || heap < 0 || heap > n) {
            return NONE;
        }
        if (!quotient.isKnown()) {
            return UNKNOWN;
        }
        return quotient.has(element) ? board.positions.tally(quotient.wordOf(element), heap) : NONE;
    }

    public int next(int n, int element, int heap) {
        Quotient quotient = quotientOf(n);
        if (quotient == null || heap < 1 || heap > n) {
            return NONE;
        }
        if (!quotient.isKnown()) {
            return UNKNOWN;
        }
        return quotient.has(element) ? quotient.nextOf(element, heap) : NONE;
    }

    public int times(int n, int one, int other) {
        Quotient quotient = quotientOf(n);
        if (quotient == null) {
            return NONE;
        }
        if (!quotient.isKnown()) {
            return UNKNOWN;
        }
        return quotient.has(one) && quotient.has(other) ? quotient.product(one, other) : NONE;
    }

    public int sets(int n, int what) {
        Quotient quotient = quotientOf(n);
        if (quotient == null || what < 0 || what > 3) {
            return NONE;
        }
        return quotient.isKnown() ? quotient.setOf(what) : UNKNOWN;
    }

    public int pairs(int n) {
        Quotient quotient = quotientOf(n);
        if (quotient == null) {
            return NONE;
        }
        return quotient.isKnown() ? board.pairsOf(quotient) : UNKNOWN;
    }

    public int proved(int n) {
        Quotient quotient = quotientOf(n);
        if (quotient == null) {
            return NONE;
        }
        return quotient.isKnown() ? board.proofOf(quotient) : UNKNOWN;
    }

    public int stays(int n) {
        Quotient quotient = quotientOf(n);
        if (quotient == null) {
            return NONE;
        }
        if (!quotient.isKnown()) {
            return UNKNOWN;
        }
        int last = n;
        for (int m = n + 1; m <= QUOTIENTS && last == m - 1; m++) {
            Quotient other = quotientOf(m);
            if (other != null && quotient.isAlike(other)) {
                last = m;
            }
        }
        return last;
    }

    public int power(int n, int element, int what) {
        Quotient quotient = quotientOf(n);
        if (quotient == null || what < 0 || what > 1) {
            return NONE;
        }
        if (!quotient.isKnown()) {
            return UNKNOWN;
        }
        return quotient.has(element) ? quotient.powerOf(element, what) : NONE;
    }

    public int place(int n) {
        Quotient quotient = quotientOf(n);
        if (quotient == null) {
            return NONE;
        }
        int answer = quotient.placeOf(tape);
        tape.cutTo(0);
        return answer;
    }

    public int count(int what) {
        switch (what) {
            case 0:
                return board == null ? 0 : board.rules.digitCount();
            case 1:
                return board == null ? 0 : board.rules.extraLines();
            case 2:
                return x;
            case 3:
                return board == null ? 0 : board.hand.undoable();
            case 4:
                return board == null ? 0 : board.hand.keptBits();
            case 5:
                return tape.size();
            default:
                return NONE;
        }
    }

    private static boolean isHeap(int heap) {
        return heap >= 1 && heap <= BIGGEST;
    }

    private static boolean isHeapOrAll(int heap) {
        return heap >= 0 && heap <= BIGGEST;
    }

    private int tallyOrNoSuch(int position, int heap) {
        return board == null || position < 0 ? NO_SUCH : board.positions.tally(position, heap);
    }

    /** The QUOTIENT of HEAPS 1 to n, built; null without these, or a GAME. */
    private Quotient quotientOf(int n) {
        if (board == null || n < 1 || n > QUOTIENTS) {
            return null;
        }
        Quotient quotient = board.quotients[n - 1];
        if (quotient != null) {
            quotient.build();
        }
        return quotient;
    }

    private static int leastMissing(int seen) {
        int least = 0;
        for (int bit = 0; bit < 31 && (seen >> bit & 1) == 1; bit++) {
            least = bit + 1;
        }
        return least;
    }

    /** The bytes that feed brought and nothing has taken yet. */
    private static final class Tape {
        private static final int MOST_BYTES = 200;
        private static final int FEED_BYTES = 20;

        private final int[] bytes = new int[MOST_BYTES];
        private int length;

        boolean hasRoom() {
            return length + FEED_BYTES <= MOST_BYTES;
        }

        void append(int number) {
            for (int shift = 24; shift >= 0 && length < MOST_BYTES; shift -= 8) {
                bytes[length] = number >>> shift & 255;
                length++;
            }
        }

        boolean cutTo(int n) {
            if (n < 0 || n > length) {
                return false;
            }
            length = n;
            return true;
        }

        int size() {
            return length;
        }

        int at(int index) {
            return index >= 0 && index < length ? bytes[index] : NONE;
        }
    }

    /** Reads a GAME's text into lines of numbers, up to its first wrong place. */
    private static final class Reader {
        private static final int MOST_LINES = 16;
        private static final int MOST_DIGITS = 8;
        private static final int NUMBER_DIGITS = 3;
        private static final int OCTAL = 1;
        private static final int ALSO = 2;
        private static final int NEVER = 3;
        private static final int CANT_STAND = 1;
        private static final int BAD_NUMBER = 2;
        private static final int BAD_DIGIT = 3;
        private static final int BAD_LINE = 4;

        private final Tape tape;
        private final int[] digits = new int[MOST_DIGITS];
        private final int[] kinds = new int[MOST_LINES];
        private final int[] heaps = new int[MOST_LINES];
        private final int[] seconds = new int[MOST_LINES];
        private final int[] thirds = new int[MOST_LINES];
        private int digitCount;
        private int lineCount;
        private int at;
        // 0 while nothing wrong was met
        private int fault;

        Reader(Tape tape) {
            this.tape = tape;
        }

        int readText() {
            at = 0;
            fault = 0;
            lineCount = 0;
            digitCount = 0;
            boolean more = true;
            // the round behind the last line only finds the fault of a seventeenth one
            for (int round = 0; more && round <= MOST_LINES; round++) {
                readLine();
                more = fault == 0 && passSemicolon();
            }
            return fault == 0 ? lineCount : NO_SUCH - fault;
        }

        private void readLine() {
            skipBlanks();
            int start = at;
            int kind = readKind();
            if (kind == 0) {
                fail(start, CANT_STAND);
                return;
            }
            if (lineCount >= MOST_LINES || (kind == OCTAL) != (lineCount == 0)) {
                fail(start, BAD_LINE);
                return;
            }
            kinds[lineCount] = kind;
            if (kind == OCTAL) {
                readCode();
            } else if (kind == ALSO) {
                readAlso();
            } else {
                readNever();
            }
            lineCount++;
        }

        private int readKind() {
            if (passWord("octal")) {
                return OCTAL;
            }
            if (passWord("also")) {
                return ALSO;
            }
            return passWord("never") ? NEVER : 0;
        }

        private void readCode() {
            skipBlanks();
            if (tape.at(at) != '.') {
                fail(at, CANT_STAND);
                return;
            }
            at++;
            skipBlanks();
            if (!isDigit(tape.at(at))) {
                fail(at, CANT_STAND);
                return;
            }
            for (int left = tape.size(); left > 0 && fault == 0 && isDigit(tape.at(at)); left--) {
                readDigit(tape.at(at) - '0');
            }
        }

        private void readDigit(int digit) {
            if (digit > 7 || digitCount >= MOST_DIGITS) {
                fail(at, BAD_DIGIT);
                return;
            }
            digits[digitCount] = digit;
            digitCount++;
            at++;
        }

        private void readAlso() {
            int heap = readNumber(1, BIGGEST);
            if (fault != 0) {
                return;
            }
            skipBlanks();
            if (!passWord("to")) {
                fail(at, CANT_STAND);
                return;
            }
            int second = readNumber(0, heap - 1);
            skipBlanks();
            int third = 0;
            if (fault == 0 && isDigit(tape.at(at))) {
                third = readNumber(0, heap - 1 - second);
            }
            store(heap, second, third);
        }

        private void readNever() {
            int heap = readNumber(1, BIGGEST);
            int taken = fault == 0 ? readNumber(1, MOST_DIGITS) : 0;
            store(heap, taken, 0);
        }

        private void store(int heap, int second, int third) {
            if (lineCount < MOST_LINES) {
                heaps[lineCount] = heap;
                seconds[lineCount] = second;
                thirds[lineCount] = third;
            }
        }

        private int readNumber(int least, int most) {
            skipBlanks();
            int start = at;
            int value = 0;
            for (int left = tape.size(); left > 0 && isDigit(tape.at(at)); left--) {
                // further digits only make the number a fault
                if (at - start < NUMBER_DIGITS) {
                    value = value * 10 + tape.at(at) - '0';
                }
                at++;
            }
            if (at == start) {
                fail(start, CANT_STAND);
            } else if (at - start > NUMBER_DIGITS || value < least || value > most) {
                fail(start, BAD_NUMBER);
            }
            return value;
        }

        private boolean passWord(String word) {
            for (int i = 0; i < word.length(); i++) {
                if (tape.at(at + i) != word.charAt(i)) {
                    return false;
                }
            }
            if (isLetter(tape.at(at + word.length()))) {
                return false;
            }
            at += word.length();
            return true;
        }

        private boolean passSemicolon() {
            skipBlanks();
            if (at >= tape.size()) {
                return false;
            }
            if (tape.at(at) != ';') {
                fail(at, CANT_STAND);
                return false;
            }
            at++;
            return true;
        }

        private void skipBlanks() {
            for (int left = tape.size(); left > 0 && tape.at(at) == ' '; left--) {
                at++;
            }
        }

        private void fail(int where, int kind) {
            if (fault == 0) {
                fault = 8 * where + kind;
            }
        }

        private static boolean isDigit(int sign) {
            return sign >= '0' && sign <= '9';
        }

        private static boolean isLetter(int sign) {
            return sign >= 'a' && sign <= 'z';
        }
    }

    /** What a told text allows: the MOVES of each HEAP, and what follows for one HEAP alone. */
    private static final class Rules {
        // MOVES that HEAPS of 1 to 12 can have, all together
        private static final int MOST_MOVES = 203;

        private final int[] digits = new int[Reader.MOST_DIGITS];
        private final int[] banned = new int[BASE];
        private final int[] granted = new int[BASE * BASE];
        private final int[] moveStart = new int[BASE + 1];
        // 13 times A, and B
        private final int[] packedMoves = new int[MOST_MOVES];
        private final int[] nimbers = new int[BASE];
        private final int[] leasts = new int[BASE];
        private final int[] mosts = new int[BASE];
        private int digitTotal;
        private int extras;

        void learn(Reader reader) {
            digitTotal = reader.digitCount;
            extras = reader.lineCount - 1;
            System.arraycopy(reader.digits, 0, digits, 0, digits.length);
            Arrays.fill(banned, 0);
            Arrays.fill(granted, 0);
            for (int i = 0; i < reader.lineCount && i < Reader.MOST_LINES; i++) {
                learnLine(reader.kinds[i], reader.heaps[i], reader.seconds[i], reader.thirds[i]);
            }
            listMoves();
            for (int heap = 1; heap <= BIGGEST; heap++) {
                judgeHeap(heap);
            }
        }

        private void learnLine(int kind, int heap, int second, int third) {
            if (kind == Reader.NEVER && isHeap(heap)) {
                banned[heap] |= 1 << second;
            }
            int a = Math.min(second, third);
            int b = Math.max(second, third);
            if (kind == Reader.ALSO && isHeap(heap) && isHeapOrAll(a)) {
                granted[heap * BASE + a] |= 1 << b;
            }
        }

        private void listMoves() {
            int size = 0;
            for (int heap = 1; heap <= BIGGEST; heap++) {
                moveStart[heap] = size;
                for (int sum = heap - 1; sum >= 0; sum--) {
                    for (int a = 0; a + a <= sum; a++) {
                        if (allows(heap, a, sum - a) && size < MOST_MOVES) {
                            packedMoves[size] = BASE * a + sum - a;
                            size++;
                        }
                    }
                }
            }
            moveStart[BASE] = size;
        }

        private boolean allows(int heap, int a, int b) {
            if ((granted[heap * BASE + a] >> b & 1) == 1) {
                return true;
            }
            int taken = heap - a - b;
            if (taken < 1 || taken > digitTotal || taken > digits.length) {
                return false;
            }
            int needed = b == 0 ? 1 : a == 0 ? 2 : 4;
            return (banned[heap] >> taken & 1) == 0 && (digits[taken - 1] & needed) != 0;
        }

        private void judgeHeap(int heap) {
            int seen = 0;
            int least = MOST_BEANS;
            int most = 0;
            for (int k = moveStart[heap]; k < moveStart[heap + 1]; k++) {
                int a = packedMoves[k] / BASE;
                int b = packedMoves[k] % BASE;
                seen |= 1 << (nimbers[a] ^ nimbers[b]);
                least = Math.min(least, 1 + leasts[a] + leasts[b]);
                most = Math.max(most, 1 + mosts[a] + mosts[b]);
            }
            nimbers[heap] = leastMissing(seen);
            leasts[heap] = most == 0 ? 0 : least;
            mosts[heap] = most;
        }

        int digitCount() {
            return digitTotal;
        }

        int extraLines() {
            return extras;
        }

        /** The k-th digit, 0 behind the last one. */
        int digitFor(int taken) {
            return taken >= 1 && taken <= digitTotal && taken <= digits.length ? digits[taken - 1] : 0;
        }

        /** Where a HEAP's MOVES begin in the row of all; behind the last HEAP, where the row ends. */
        int firstMove(int heap) {
            return heap >= 1 && heap <= BASE ? moveStart[heap] : 0;
        }

        int packedAt(int index) {
            return index >= 0 && index < MOST_MOVES ? packedMoves[index] : 0;
        }

        int moveCount(int heap) {
            return isHeap(heap) ? moveStart[heap + 1] - moveStart[heap] : 0;
        }

        int moveAt(int heap, int k) {
            if (!isHeap(heap) || k < 0 || k >= moveStart[heap + 1] - moveStart[heap]) {
                return NONE;
            }
            return packedMoves[moveStart[heap] + k];
        }

        boolean isMove(int heap, int a, int b) {
            if (a < 0 || b < a || b > BIGGEST || !isHeap(heap) || a + b >= heap) {
                return false;
            }
            return allows(heap, a, b);
        }

        int nimberOf(int heap) {
            return isHeap(heap) ? nimbers[heap] : 0;
        }

        int leastOf(int heap) {
            return isHeap(heap) ? leasts[heap] : 0;
        }

        int mostOf(int heap) {
            return isHeap(heap) ? mosts[heap] : 0;
        }
    }

    /** The PERIOD of a code's NIMBERS. */
    private static final class Cycle {
        private static final int FARTHEST = 160;
        // no NIMBER of a HEAP is above its BEANS, so no two joined come to more than 255
        private static final int JOINED = 256;

        private final int[] nimbers = new int[FARTHEST + 1];
        // the HEAP for which a number was seen last: no need to wipe between HEAPS
        private final int[] seenFor = new int[JOINED];
        private boolean looked;
        private int length;
        private int start;

        void forget() {
            looked = false;
        }

        int answer(Rules rules, int what) {
            if (!looked) {
                findNimbers(rules);
                findCycle(rules.digitCount());
                looked = true;
            }
            if (length == 0) {
                return NO_SUCH;
            }
            return what == 0 ? length : start;
        }

        private void findNimbers(Rules rules) {
            Arrays.fill(seenFor, 0);
            for (int heap = 1; heap <= FARTHEST; heap++) {
                for (int taken = 1; taken <= rules.digitCount() && taken <= heap; taken++) {
                    seeMoves(heap, heap - taken, rules.digitFor(taken));
                }
                int least = 0;
                for (int number = 0; number < JOINED && seenFor[number] == heap; number++) {
                    least = number + 1;
                }
                nimbers[heap] = least;
            }
        }

        private void seeMoves(int heap, int left, int digit) {
            if ((digit & (left == 0 ? 1 : 2)) != 0) {
                seenFor[nimbers[left] & JOINED - 1] = heap;
            }
            if ((digit & 4) != 0) {
                for (int a = 1; a + a <= left; a++) {
                    seenFor[(nimbers[a] ^ nimbers[left - a]) & JOINED - 1] = heap;
                }
            }
        }

        private void findCycle(int digits) {
            length = 0;
            start = 0;
            for (int p = 1; 2 + 2 * p + digits <= FARTHEST && length == 0; p++) {
                for (int e = 1; 2 * e + 2 * p + digits <= FARTHEST && length == 0; e++) {
                    if (repeats(p, e, 2 * e + p + digits - 1)) {
                        length = p;
                        start = e;
                    }
                }
            }
        }

        private boolean repeats(int p, int from, int to) {
            // from the far end on, where a wrong start fails soonest
            for (int n = Math.min(to, FARTHEST - p); n >= from; n--) {
                if (nimbers[n + p] != nimbers[n]) {
                    return false;
                }
            }
            return true;
        }
    }

    /** All POSITIONS in their order, each a number from 0 (the empty one) on, whatever the GAME. */
    private static final class Positions {
        private static final int TOTAL = 4224;
        // ways to take one HEAP (of like ones once) out of a POSITION, over all POSITIONS
        private static final int LINKS = 14202;
        private static final int SPLIT = 8192;

        // of HEAPS h and on, with b BEANS together, at h * 23 + b
        private final int[] ways = new int[(BASE + 1) * (MOST_BEANS + 1)];
        private final int[] firstOf = new int[MOST_BEANS + 2];
        private final int[] joinStart = new int[BASE + 1];
        private final int[] joined = new int[LINKS];
        private final int[] partStart = new int[TOTAL + 1];
        // 8192 times a HEAP of the POSITION, and the POSITION without it, from the least HEAP on
        private final int[] parts = new int[LINKS];

        Positions() {
            countWays();
            int size = 0;
            for (int beans = 0; beans <= MOST_BEANS; beans++) {
                for (int p = firstOf[beans]; p < firstOf[beans + 1] && p < TOTAL; p++) {
                    partStart[p] = size;
                    size = linkParts(p, beans, size);
                }
            }
            partStart[TOTAL] = size;
        }

        private void countWays() {
            ways[BASE * (MOST_BEANS + 1)] = 1;
            for (int heap = BIGGEST; heap >= 1; heap--) {
                for (int beans = 0; beans <= MOST_BEANS; beans++) {
                    int with = beans < heap ? 0 : waysOf(heap, beans - heap);
                    ways[heap * (MOST_BEANS + 1) + beans] = waysOf(heap + 1, beans) + with;
                }
            }
            for (int beans = 0; beans <= MOST_BEANS; beans++) {
                firstOf[beans + 1] = firstOf[beans] + waysOf(1, beans);
            }
            for (int heap = 1; heap <= BIGGEST; heap++) {
                joinStart[heap + 1] = joinStart[heap] + firstOf[MOST_BEANS + 1 - heap];
            }
        }

        private int waysOf(int heap, int beans) {
            boolean told = heap >= 1 && heap <= BASE && beans >= 0 && beans <= MOST_BEANS;
            return told ? ways[heap * (MOST_BEANS + 1) + beans] : 0;
        }

        /**
         * Of so many BEANS, those without HEAPS below h come first, so one that has h as its least
         * HEAP stands as far behind those without it as what is left of it stands in its own row.
         */
        private int linkParts(int p, int beans, int size) {
            int row = p - firstOf[beans];
            for (int least = 1; least <= BIGGEST && least <= beans; least++) {
                int ahead = waysOf(least + 1, beans);
                if (row >= ahead) {
                    int rest = firstOf[beans - least] + row - ahead;
                    return linkOthers(p, least, rest, link(p, least, rest, size));
                }
            }
            return size;
        }

        // p without a HEAP above its least is what is left, without that HEAP, with the least again
        private int linkOthers(int p, int least, int rest, int size) {
            int then = size;
            int end = endPart(rest);
            for (int part = firstPart(rest); part < end; part++) {
                int heap = heapOf(part);
                if (heap != least) {
                    then = link(p, heap, join(restOf(part), least), then);
                }
            }
            return then;
        }

        private int link(int p, int heap, int rest, int size) {
            int joint = joinStart[heap] + rest;
            if (size >= LINKS || joint < 0 || joint >= LINKS) {
                return size;
            }
            parts[size] = SPLIT * heap + rest;
            joined[joint] = p;
            return size + 1;
        }

        private static boolean isPosition(int p) {
            return p >= 0 && p < TOTAL;
        }

        /** The POSITION with a HEAP more (0 is no HEAP); NONE if it is none. */
        int join(int p, int heap) {
            if (heap == 0) {
                return p;
            }
            if (heap < 0 || heap > BIGGEST || p < 0 || p >= firstOf[MOST_BEANS + 1 - heap]) {
                return NONE;
            }
            return joined[joinStart[heap] + p];
        }

        /** What was left of a POSITION, with both HEAPS of a MOVE; in one piece, for it is asked most. */
        int joinMove(int p, int packed) {
            int a = packed / BASE;
            int b = packed % BASE;
            if (p < 0 || a < 0 || b < 0 || a > BIGGEST || p >= firstOf[MOST_BEANS + 1 - a]) {
                return NONE;
            }
            int withOne = a == 0 ? p : joined[joinStart[a] + p];
            if (withOne >= firstOf[MOST_BEANS + 1 - b]) {
                return NONE;
            }
            return b == 0 ? withOne : joined[joinStart[b] + withOne];
        }

        int joinAll(int p, int other) {
            int sum = p;
            int left = other;
            for (int i = 0; i < MOST_BEANS && left > 0; i++) {
                int part = firstPart(left);
                sum = join(sum, heapOf(part));
                left = restOf(part);
            }
            return sum;
        }

        int firstPart(int p) {
            return isPosition(p) ? partStart[p] : 0;
        }

        int endPart(int p) {
            return isPosition(p) ? partStart[p + 1] : 0;
        }

        int heapOf(int part) {
            return part >= 0 && part < LINKS ? parts[part] / SPLIT : 0;
        }

        int restOf(int part) {
            return part >= 0 && part < LINKS ? parts[part] % SPLIT : 0;
        }

        int without(int p, int heap) {
            for (int part = firstPart(p); part < endPart(p); part++) {
                if (heapOf(part) == heap) {
                    return restOf(part);
                }
            }
            return NONE;
        }

        int countOf(int p, int heap) {
            int found = 0;
            int left = without(p, heap);
            for (int i = 0; i < MOST_BEANS && left >= 0; i++) {
                found++;
                left = without(left, heap);
            }
            return found;
        }

        int beansOf(int p) {
            int beans = 0;
            for (int more = 1; more <= MOST_BEANS && p >= firstOf[more]; more++) {
                beans = more;
            }
            return beans;
        }

        /** How many HEAPS of one size, or for 0 the BEANS. */
        int tally(int p, int heap) {
            return heap == 0 ? beansOf(p) : countOf(p, heap);
        }

        /** The first POSITION of so many BEANS; of more than there can be, one behind the last. */
        int firstWith(int beans) {
            return firstOf[Math.max(0, Math.min(beans, MOST_BEANS + 1))];
        }

        int biggestHeap(int p) {
            return firstPart(p) == endPart(p) ? 0 : heapOf(endPart(p) - 1);
        }
    }

    /** The MOVES of one POSITION, of like HEAPS once, from the least HEAP on. */
    private static final class Options {
        private final Positions positions;
        private final Rules rules;
        private final int[] targets = new int[Rules.MOST_MOVES];
        private final int[] codes = new int[Rules.MOST_MOVES];
        private int length;

        Options(Positions positions, Rules rules) {
            this.positions = positions;
            this.rules = rules;
        }

        void list(int p) {
            length = 0;
            int end = positions.endPart(p);
            for (int part = positions.firstPart(p); part < end; part++) {
                int heap = positions.heapOf(part);
                int rest = positions.restOf(part);
                int endMove = rules.firstMove(heap + 1);
                for (int k = rules.firstMove(heap); k < endMove && length < targets.length; k++) {
                    int packed = rules.packedAt(k);
                    targets[length] = positions.joinMove(rest, packed);
                    codes[length] = HEAP_DIGIT * heap + packed;
                    length++;
                }
            }
        }

        int size() {
            return length;
        }

        int target(int i) {
            return i >= 0 && i < length ? targets[i] : NONE;
        }

        int code(int i) {
            return i >= 0 && i < length ? codes[i] : NO_SUCH;
        }
    }

    /** What POSITIONS are worth, settled from the least on only as far as was asked. */
    private static final class Values {
        private static final int TESTS = 45;
        private static final int MARKED = 677;
        // NIM HEAPS beside: none, 1, 1 1, 2, 1 2, 2 2; to which of these each can MOVE, as bits
        private static final int BESIDES = 6;
        private static final int[] BESIDE_MOVES = {0, 1, 2, 3, 14, 24};
        private static final int[] BESIDE_OF_GENUS = {0, 3, 5};
        private static final int GENUS_BITS = 5;
        private static final int GENUS_MASK = 31;
        // no MARK has this bit
        private static final long UNMARKED = -1L;

        private final Positions positions;
        private final Rules rules;
        private final Options options;
        // twice REMOTE, and 1 if it WINS
        private final int[] outcomes = new int[Positions.TOTAL];
        // BACK NIMBERS with each of the NIM HEAPS beside, five bits each
        private final int[] genera = new int[Positions.TOTAL];
        private final int[] seen = new int[BESIDES];
        private final long[] marks = new long[MARKED];
        private int outcomesKnown;
        private int generaKnown;

        Values(Positions positions, Rules rules) {
            this.positions = positions;
            this.rules = rules;
            options = new Options(positions, rules);
        }

        void forget() {
            outcomesKnown = 0;
            generaKnown = 0;
            Arrays.fill(marks, UNMARKED);
        }

        private void settleTo(int p) {
            for (int i = outcomesKnown; i <= p && i < Positions.TOTAL; i++) {
                options.list(i);
                outcomes[i] = judgeOptions();
                outcomesKnown = i + 1;
            }
        }

        private int judgeOptions() {
            int[] targets = options.targets;
            int size = options.length;
            // twice REMOTE, as outcomes are: those that LOSE are even
            int soonest = 2 * MOST_BEANS;
            int latest = 0;
            boolean wins = size == 0;
            for (int i = 0; i < size && i < targets.length; i++) {
                int target = targets[i];
                int outcome = target >= 0 ? outcomes[target] : 0;
                if (outcome > latest) {
                    latest = outcome;
                }
                if ((outcome & 1) == 0) {
                    wins = true;
                    if (outcome < soonest) {
                        soonest = outcome;
                    }
                }
            }
            if (wins) {
                return size == 0 ? 1 : soonest + 3;
            }
            return (latest & -2) + 2;
        }

        boolean loses(int p) {
            settleTo(p);
            return Positions.isPosition(p) && outcomes[p] % 2 == 0;
        }

        int remoteOf(int p) {
            settleTo(p);
            return Positions.isPosition(p) ? outcomes[p] / 2 : 0;
        }

        int countLosers(int beans) {
            int found = 0;
            for (int p = positions.firstWith(beans); p < positions.firstWith(beans + 1); p++) {
                if (loses(p)) {
                    found++;
                }
            }
            return found;
        }

        int firstLoser(int beans) {
            for (int p = positions.firstWith(beans); p < positions.firstWith(beans + 1); p++) {
                if (loses(p)) {
                    return p;
                }
            }
            return NONE;
        }

        private void settleGeneraTo(int p) {
            for (int i = generaKnown; i <= p && i < Positions.TOTAL; i++) {
                options.list(i);
                genera[i] = judgeGenera();
                generaKnown = i + 1;
            }
        }

        private int judgeGenera() {
            int[] targets = options.targets;
            Arrays.fill(seen, 0);
            for (int i = 0; i < options.length && i < targets.length; i++) {
                int packed = targets[i] >= 0 ? genera[targets[i]] : 0;
                for (int beside = 0; beside < BESIDES; beside++) {
                    seen[beside] |= 1 << (packed & GENUS_MASK);
                    packed >>= GENUS_BITS;
                }
            }
            int found = 0;
            for (int beside = 0; beside < BESIDES; beside++) {
                for (int other = 0; other < beside; other++) {
                    if ((BESIDE_MOVES[beside] >> other & 1) == 1) {
                        seen[beside] |= 1 << (found >> GENUS_BITS * other & GENUS_MASK);
                    }
                }
                int back = seen[beside] == 0 ? 1 : leastMissing(seen[beside]);
                found |= back << GENUS_BITS * beside;
            }
            return found;
        }

        int genusOf(int p, int k) {
            settleGeneraTo(p);
            if (!Positions.isPosition(p) || k < 0 || k >= BESIDE_OF_GENUS.length) {
                return NONE;
            }
            return genera[p] >> GENUS_BITS * BESIDE_OF_GENUS[k] & GENUS_MASK;
        }

        boolean isTame(int p) {
            int n = nimberOf(p);
            int zero = genusOf(p, 0);
            int one = genusOf(p, 1);
            int two = genusOf(p, 2);
            if (two != n || one != (n ^ 2)) {
                return false;
            }
            // n, n joined with 2, n; or 1, 2, 0 for 0; or 0, 3, 1 for 1
            return zero == n || n < 2 && zero == 1 - n;
        }

        int nimberOf(int p) {
            int sum = 0;
            int left = p;
            for (int i = 0; i < MOST_BEANS && left > 0; i++) {
                int part = positions.firstPart(left);
                sum ^= rules.nimberOf(positions.heapOf(part));
                left = positions.restOf(part);
            }
            return sum;
        }

        boolean isLikeNim(int p) {
            boolean small = true;
            for (int part = positions.firstPart(p); part < positions.endPart(p); part++) {
                small &= rules.nimberOf(positions.heapOf(part)) < 2;
            }
            return loses(p) == (nimberOf(p) == (small ? 1 : 0));
        }

        private int lengthOf(int p, boolean least) {
            int sum = 0;
            int left = p;
            for (int i = 0; i < MOST_BEANS && left > 0; i++) {
                int part = positions.firstPart(left);
                int heap = positions.heapOf(part);
                // HEAPS do not touch one another, so their lengths add up
                sum += least ? rules.leastOf(heap) : rules.mostOf(heap);
                left = positions.restOf(part);
            }
            return sum;
        }

        private int countWinning(int p) {
            // settled first: settling uses the same options
            settleTo(p);
            options.list(p);
            int found = 0;
            for (int i = 0; i < options.size(); i++) {
                if (loses(options.target(i))) {
                    found += positions.countOf(p, options.code(i) / HEAP_DIGIT);
                }
            }
            return found;
        }

        int stateOf(int p, int what) {
            switch (what) {
                case 0:
                    return loses(p) ? 0 : 1;
                case 1:
                    return remoteOf(p);
                case 2:
                    return nimberOf(p);
                case 3:
                    return genusOf(p, 0);
                case 4:
                    return countWinning(p);
                case 5:
                    return isLikeNim(p) ? 1 : 0;
                case 6:
                    return lengthOf(p, true);
                case 7:
                    return lengthOf(p, false);
                case 8:
                    return isTame(p) ? 1 : 0;
                default:
                    return NONE;
            }
        }

        /** Whether every test beside it is still a POSITION. */
        boolean hasMark(int p) {
            return p >= 0 && p < MARKED;
        }

        /** The MARK over all tests: bit t if with the POSITION t beside it LOSES. */
        long markOf(int p) {
            if (!hasMark(p)) {
                return 0L;
            }
            if (marks[p] == UNMARKED) {
                settleTo(positions.firstWith(positions.beansOf(p) + TEST_BEANS + 1) - 1);
                long mark = 0L;
                for (int test = 0; test < TESTS; test++) {
                    int sum = positions.joinAll(p, test);
                    if (sum >= 0 && outcomes[sum] % 2 == 0) {
                        mark |= 1L << test;
                    }
                }
                marks[p] = mark;
            }
            return marks[p];
        }

        /** The tests that have no HEAP above n, as bits. */
        long testsOf(int n) {
            long tests = 0L;
            for (int test = 0; test < TESTS; test++) {
                if (positions.biggestHeap(test) <= n) {
                    tests |= 1L << test;
                }
            }
            return tests;
        }

        int firstBetween(int p, int other) {
            long unlike = markOf(p) ^ markOf(other);
            for (int test = 0; test < TESTS; test++) {
                if ((unlike >> test & 1L) == 1L) {
                    return test;
                }
            }
            return NONE;
        }

        int firstAlike(int p) {
            long mark = markOf(p);
            for (int test = 0; test < TESTS; test++) {
                if (markOf(test) == mark) {
                    return test;
                }
            }
            return NONE;
        }
    }

    /** The HAND, what it was before its last ACTS, and what is KEPT of it. */
    private static final class Hand {
        private static final int MOST_ACTS = 30;

        private final int[] before = new int[MOST_ACTS];
        private final int[] kept = new int[MOST_KEPT];
        private int now;
        private int top;
        private int acts;

        void empty() {
            now = 0;
            top = 0;
            acts = 0;
            Arrays.fill(kept, NONE);
        }

        int position() {
            return now;
        }

        void become(int p) {
            before[top] = now;
            top = (top + 1) % MOST_ACTS;
            acts = Math.min(acts + 1, MOST_ACTS);
            now = p;
        }

        int takeBack() {
            if (acts == 0) {
                return NONE;
            }
            top = (top + MOST_ACTS - 1) % MOST_ACTS;
            acts--;
            now = before[top];
            return acts;
        }

        int undoable() {
            return acts;
        }

        void keepUnder(int k) {
            if (k >= 0 && k < MOST_KEPT) {
                kept[k] = now;
            }
        }

        int keptUnder(int k) {
            return k >= 0 && k < MOST_KEPT ? kept[k] : NONE;
        }

        int keptBits() {
            int bits = 0;
            for (int k = 0; k < MOST_KEPT; k++) {
                if (kept[k] >= 0) {
                    bits |= 1 << k;
                }
            }
            return bits;
        }
    }

    /** The QUOTIENT of HEAPS 1 to n. */
    private static final class Quotient {
        // unlike NO_SUCH, which is an answer itself
        private static final int UNSEARCHED = -9;

        private final int biggest;
        private final Positions positions;
        private final Values values;
        private final int[] words = new int[MOST_ELEMENTS];
        private final long[] marks = new long[MOST_ELEMENTS];
        private final int[] nexts = new int[MOST_ELEMENTS * QUOTIENTS];
        private final int[] cameAs = new int[MOST_ELEMENTS];
        // 0 while not built
        private int length;
        private int pairCount;
        private boolean pairsFit;

        Quotient(int biggest, Positions positions, Values values) {
            this.biggest = biggest;
            this.positions = positions;
            this.values = values;
        }

        void forget() {
            length = 0;
            pairCount = UNSEARCHED;
            pairsFit = false;
        }

        void build() {
            if (length != 0) {
                return;
            }
            long tests = values.testsOf(biggest);
            length = 1;
            words[0] = 0;
            marks[0] = values.markOf(0) & tests;
            for (int e = 0; e < length && e < MOST_ELEMENTS; e++) {
                for (int heap = 1; heap <= biggest && length > 0; heap++) {
                    int longer = positions.join(words[e], heap);
                    boolean fits = values.hasMark(longer);
                    int found = fits ? elementFor(longer, values.markOf(longer) & tests) : NONE;
                    if (found < 0) {
                        length = UNKNOWN;
                    } else {
                        nexts[e * QUOTIENTS + heap - 1] = found;
                    }
                }
            }
        }

        private int elementFor(int longer, long mark) {
            for (int e = 0; e < length && e < MOST_ELEMENTS; e++) {
                if (marks[e] == mark) {
                    return e;
                }
            }
            if (length >= MOST_ELEMENTS) {
                return NONE;
            }
            words[length] = longer;
            marks[length] = mark;
            length++;
            return length - 1;
        }

        int size() {
            return length;
        }

        int heaps() {
            return biggest;
        }

        boolean isKnown() {
            return length > 0;
        }

        boolean has(int element) {
            return element >= 0 && element < length;
        }

        int wordOf(int element) {
            return has(element) ? words[element] : 0;
        }

        int nextOf(int element, int heap) {
            boolean told = has(element) && heap >= 1 && heap <= biggest;
            return told ? nexts[element * QUOTIENTS + heap - 1] : element;
        }

        int product(int one, int other) {
            int sum = one;
            int left = wordOf(other);
            for (int i = 0; i < WORD_BEANS && left > 0; i++) {
                int part = positions.firstPart(left);
                sum = nextOf(sum, positions.heapOf(part));
                left = positions.restOf(part);
            }
            return sum;
        }

        int setOf(int what) {
            switch (what) {
                case 0:
                    return lostSet();
                case 1:
                    return kernel();
                case 2:
                    return units();
                default:
                    return idle();
            }
        }

        int lostSet() {
            int set = 0;
            for (int e = 0; e < length; e++) {
                // the empty test is the first one
                if (has(e) && (marks[e] & 1L) == 1L) {
                    set |= 1 << e;
                }
            }
            return set;
        }

        private int reachOf(int e) {
            int set = 0;
            for (int g = 0; g < length; g++) {
                set |= 1 << product(e, g);
            }
            return set;
        }

        private int kernel() {
            int set = (1 << length) - 1;
            for (int e = 0; e < length; e++) {
                set &= reachOf(e);
            }
            return set;
        }

        private int units() {
            int set = 0;
            for (int e = 0; e < length; e++) {
                if ((reachOf(e) & 1) == 1) {
                    set |= 1 << e;
                }
            }
            return set;
        }

        private int idle() {
            int set = 0;
            for (int e = 0; e < length; e++) {
                if (product(e, e) == e) {
                    set |= 1 << e;
                }
            }
            return set;
        }

        boolean isSteady() {
            for (int e = 0; e < length; e++) {
                for (int g = 1; g <= biggest; g++) {
                    for (int h = 1; h < g; h++) {
                        if (nextOf(nextOf(e, g), h) != nextOf(nextOf(e, h), g)) {
                            return false;
                        }
                    }
                }
            }
            return true;
        }

        int powerOf(int element, int what) {
            Arrays.fill(cameAs, 0);
            int power = element;
            for (int i = 1; i <= MOST_ELEMENTS + 1 && has(power); i++) {
                if (cameAs[power] > 0) {
                    return what == 0 ? cameAs[power] : i - cameAs[power];
                }
                cameAs[power] = i;
                power = product(power, element);
            }
            return NONE;
        }

        int placeOf(Tape tape) {
            for (int i = 0; i < tape.size(); i++) {
                if (tape.at(i) < 1 || tape.at(i) > biggest) {
                    return NO_SUCH;
                }
            }
            if (!isKnown()) {
                return UNKNOWN;
            }
            int sum = 0;
            for (int heap = 1; heap <= biggest; heap++) {
                for (int i = 0; i < tape.size(); i++) {
                    if (tape.at(i) == heap) {
                        sum = nextOf(sum, heap);
                    }
                }
            }
            return sum;
        }

        /** Whether another one, of more HEAPS, is alike as far as this one's HEAPS go. */
        boolean isAlike(Quotient other) {
            if (other.length != length || other.lostSet() != lostSet()) {
                return false;
            }
            for (int e = 0; e < length; e++) {
                for (int heap = 1; heap <= biggest; heap++) {
                    if (nextOf(e, heap) != other.nextOf(e, heap)) {
                        return false;
                    }
                }
            }
            return true;
        }
    }

    /** Finds the PAIRS of one QUOTIENT at a time; its rows serve all of them. */
    private static final class Pairs {
        private static final int MOST_PAIRS = 2000;
        private static final int SLOTS = 4096;
        private static final int SPREAD = -1640531535;
        private static final int SET_BITS = 16;
        private static final int SET_MASK = 65535;

        private final Rules rules;
        private final int[] found = new int[MOST_PAIRS];
        // a PAIR and 1; 0 is a free slot
        private final int[] slots = new int[SLOTS];
        // what an ELEMENT comes to by the MOVES of a HEAP put beside it
        private final int[] movesTo = new int[MOST_ELEMENTS * QUOTIENTS];
        private int size;
        private boolean tooMany;

        Pairs(Rules rules) {
            this.rules = rules;
        }

        void search(Quotient quotient) {
            Arrays.fill(slots, 0);
            size = 0;
            tooMany = false;
            listMoves(quotient);
            insert(0);
            for (int i = 0; i < size && i < MOST_PAIRS && !tooMany; i++) {
                for (int heap = 1; heap <= quotient.heaps(); heap++) {
                    insert(follow(quotient, found[i], heap));
                }
            }
            quotient.pairCount = tooMany ? NO_SUCH : size;
            quotient.pairsFit = !tooMany && allFit(quotient.lostSet());
        }

        private void listMoves(Quotient quotient) {
            for (int e = 0; e < quotient.size() && e < MOST_ELEMENTS; e++) {
                for (int heap = 1; heap <= quotient.heaps() && heap <= QUOTIENTS; heap++) {
                    movesTo[e * QUOTIENTS + heap - 1] = movesOf(quotient, e, heap);
                }
            }
        }

        private int movesOf(Quotient quotient, int e, int heap) {
            int set = 0;
            for (int k = 0; k < rules.moveCount(heap); k++) {
                int packed = rules.moveAt(heap, k);
                // a part of 0 is no HEAP: nextOf stays where it is
                set |= 1 << quotient.nextOf(quotient.nextOf(e, packed / BASE), packed % BASE);
            }
            return set;
        }

        private int follow(Quotient quotient, int pair, int heap) {
            int e = pair >> SET_BITS;
            int set = pair & SET_MASK;
            int row = e * QUOTIENTS + heap - 1;
            int then = row >= 0 && row < movesTo.length ? movesTo[row] : 0;
            for (int s = 0; s < MOST_ELEMENTS; s++) {
                if ((set >> s & 1) == 1) {
                    then |= 1 << quotient.nextOf(s, heap);
                }
            }
            return quotient.nextOf(e, heap) << SET_BITS | then;
        }

        private void insert(int pair) {
            int slot = pair * SPREAD >>> 20;
            for (int i = 0; i < SLOTS; i++) {
                int at = slot + i & SLOTS - 1;
                if (slots[at] == pair + 1) {
                    return;
                }
                if (slots[at] == 0) {
                    append(pair, at);
                    return;
                }
            }
        }

        private void append(int pair, int slot) {
            if (size >= MOST_PAIRS) {
                tooMany = true;
                return;
            }
            slots[slot] = pair + 1;
            found[size] = pair;
            size++;
        }

        private boolean allFit(int lost) {
            for (int i = 0; i < size && i < MOST_PAIRS; i++) {
                int set = found[i] & SET_MASK;
                boolean isLost = (lost >> (found[i] >> SET_BITS) & 1) == 1;
                boolean due = set != 0 && (set & lost) == 0;
                if (isLost != due) {
                    return false;
                }
            }
            return true;
        }
    }

    /** A told GAME with all that hangs on it; its rows serve every GAME told later. */
    private static final class Board {
        private static final int UNSEEN = -2;
        private static final int DRAW_FACTOR = 1103515245;
        private static final int DRAW_STEP = 12345;
        private static final int DRAW_MASK = 2147483647;

        private final Rules rules = new Rules();
        private final Cycle cycle = new Cycle();
        private final Positions positions = new Positions();
        private final Hand hand = new Hand();
        private final Values values;
        private final Options options;
        private final Pairs pairSearch;
        private final Quotient[] quotients = new Quotient[QUOTIENTS];
        private int oddOne;
        private int wildOne;

        Board() {
            values = new Values(positions, rules);
            options = new Options(positions, rules);
            pairSearch = new Pairs(rules);
            for (int n = 1; n <= QUOTIENTS; n++) {
                quotients[n - 1] = new Quotient(n, positions, values);
            }
        }

        void begin(Reader reader) {
            rules.learn(reader);
            cycle.forget();
            hand.empty();
            values.forget();
            for (int i = 0; i < QUOTIENTS; i++) {
                if (quotients[i] != null) {
                    quotients[i].forget();
                }
            }
            oddOne = UNSEEN;
            wildOne = UNSEEN;
        }

        int firstOdd() {
            int end = positions.firstWith(ODD_BEANS + 1);
            for (int p = 0; p < end && oddOne == UNSEEN; p++) {
                if (!values.isLikeNim(p)) {
                    oddOne = p;
                }
            }
            if (oddOne == UNSEEN) {
                oddOne = NONE;
            }
            return oddOne;
        }

        int firstWild() {
            int end = positions.firstWith(ODD_BEANS + 1);
            for (int p = 0; p < end && wildOne == UNSEEN; p++) {
                if (!values.isTame(p)) {
                    wildOne = p;
                }
            }
            if (wildOne == UNSEEN) {
                wildOne = NONE;
            }
            return wildOne;
        }

        int makeReply() {
            options.list(hand.position());
            for (int i = 0; i < options.size(); i++) {
                if (values.loses(options.target(i))) {
                    hand.become(options.target(i));
                    return options.code(i);
                }
            }
            return NO_SUCH;
        }

        /** The k-th MOVE to a POSITION that LOSES, or for NONE how many there are. */
        int answerAt(int k) {
            options.list(hand.position());
            int found = 0;
            for (int i = 0; i < options.size(); i++) {
                if (values.loses(options.target(i))) {
                    if (found == k) {
                        return options.code(i);
                    }
                    found++;
                }
            }
            return k == NONE ? found : NO_SUCH;
        }

        int lineMove(int k) {
            int code = NO_SUCH;
            int p = hand.position();
            // each MOVE takes a BEAN at least
            for (int i = 0; i <= k && i <= MOST_BEANS; i++) {
                options.list(p);
                int best = values.loses(p) ? slowest() : soonest();
                code = options.code(best);
                p = options.target(best);
                if (p < 0) {
                    return NO_SUCH;
                }
            }
            return code;
        }

        private int soonest() {
            int best = NONE;
            int least = MOST_BEANS + 1;
            for (int i = 0; i < options.size(); i++) {
                int target = options.target(i);
                if (values.loses(target) && values.remoteOf(target) < least) {
                    least = values.remoteOf(target);
                    best = i;
                }
            }
            return best;
        }

        private int slowest() {
            int best = NONE;
            int greatest = NONE;
            for (int i = 0; i < options.size(); i++) {
                if (values.remoteOf(options.target(i)) > greatest) {
                    greatest = values.remoteOf(options.target(i));
                    best = i;
                }
            }
            return best;
        }

        int drawGames(int m, int what, int seed) {
            int drawn = seed;
            int won = 0;
            int made = 0;
            for (int i = 0; i < m && i < MOST_DRAWN; i++) {
                int p = hand.position();
                int before = made;
                int all = movesOf(p);
                for (int step = 0; step < MOST_BEANS && all > 0; step++) {
                    drawn = drawn * DRAW_FACTOR + DRAW_STEP & DRAW_MASK;
                    p = afterMove(p, drawn / 65536 % all);
                    made++;
                    all = movesOf(p);
                }
                // who has no MOVE wins, and after an even number that is who began
                if ((made - before) % 2 == 0) {
                    won++;
                }
            }
            return what == 0 ? won : made;
        }

        private int movesOf(int p) {
            int all = 0;
            for (int part = positions.firstPart(p); part < positions.endPart(p); part++) {
                int heap = positions.heapOf(part);
                all += positions.countOf(p, heap) * rules.moveCount(heap);
            }
            return all;
        }

        private int afterMove(int p, int index) {
            int left = index;
            for (int part = positions.firstPart(p); part < positions.endPart(p); part++) {
                int heap = positions.heapOf(part);
                int each = rules.moveCount(heap);
                int all = positions.countOf(p, heap) * each;
                if (left < all && each > 0) {
                    int packed = rules.moveAt(heap, left % each);
                    return positions.joinMove(positions.restOf(part), packed);
                }
                left -= all;
            }
            return p;
        }

        int pairsOf(Quotient quotient) {
            if (quotient.pairCount == Quotient.UNSEARCHED) {
                pairSearch.search(quotient);
            }
            return quotient.pairCount;
        }

        int proofOf(Quotient quotient) {
            if (!quotient.isSteady()) {
                return 0;
            }
            return pairsOf(quotient) > 0 && quotient.pairsFit ? 2 : 1;
        }
    }
}
