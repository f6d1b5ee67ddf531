import java.nio.charset.StandardCharsets;
import java.util.Arrays;
import java.util.function.IntSupplier;
import java.util.function.IntUnaryOperator;

/** What the tests of the promises share: comparing answers, and telling texts as bytes. */
final class Check {
    static final String NO_MOVES = "octal .0";
    static final String TAKE_ONE = "octal .3";
    static final String TWO = "octal .33";
    static final String NIM = "octal .33333333";
    static final String KAYLES = "octal .77";
    static final String DAWSON = "octal .07";

    private static final int[] FAR = {-1, Integer.MIN_VALUE, Integer.MAX_VALUE};

    private static int wrong;
    private static int checks;
    private static String held = "";

    private Check() {
    }

    /** The words that the answers to come are held against; they stand ahead of every complaint. */
    static void hold(String words) {
        held = words + ": ";
    }

    static int checks() {
        return checks;
    }

    static void fail(String what) {
        checks++;
        wrong++;
        System.out.println(what);
    }

    static void due(String what, int got, int want) {
        checks++;
        if (got != want) {
            wrong++;
            System.out.println(held + what + ": answered " + got + ", due is " + want);
        }
    }

    static void none(String what, int... answers) {
        for (int i = 0; i < answers.length; i++) {
            due(what + ", call " + i, answers[i], LastLoses.NONE);
        }
    }

    /** NONE for the numbers given, for -1, and for the least and the greatest number there are. */
    static void outside(String what, IntUnaryOperator call, int... numbers) {
        for (int number : numbers) {
            due(what + " of " + number, call.applyAsInt(number), LastLoses.NONE);
        }
        for (int number : FAR) {
            due(what + " of " + number, call.applyAsInt(number), LastLoses.NONE);
        }
    }

    /** Every call answers so, and nothing that can be looked at is other than it was. */
    static void refused(LastLoses x, String what, int want, IntSupplier... calls) {
        int[] before = look(x);
        for (int i = 0; i < calls.length; i++) {
            due(what + ", call " + i, calls[i].getAsInt(), want);
        }
        int[] after = look(x);
        for (int i = 0; i < before.length; i++) {
            due(what + ", then look " + i, after[i], before[i]);
        }
    }

    /** 29 calls that change nothing: the hand, all counts, some of the game, and what is kept. */
    private static int[] look(LastLoses x) {
        int[] seen = new int[29];
        int size = 0;
        for (int heap = 0; heap <= 12; heap++) {
            seen[size++] = x.hand(heap);
        }
        for (int what = 0; what <= 5; what++) {
            seen[size++] = x.count(what);
        }
        for (int heap : new int[] {1, 2, 5, 12}) {
            seen[size++] = x.moves(heap);
        }
        for (int k = 0; k <= 2; k++) {
            seen[size++] = x.apart(k, 0);
        }
        seen[size++] = x.simplest(0);
        seen[size++] = x.state(1);
        seen[size] = x.period(0);
        return seen;
    }

    static void finish(String name) {
        System.out.println(name + ": " + checks + " answers, " + wrong + " wrong");
        System.exit(wrong == 0 && checks > 0 ? 0 : 1);
    }

    /** The bytes come on the tape behind what it has, and nothing else does. */
    static void tell(LastLoses x, byte[] bytes) {
        int had = x.count(5);
        byte[] padded = Arrays.copyOf(bytes, (bytes.length + 19) / 20 * 20);
        for (int i = 0; i < padded.length; i += 20) {
            int[] numbers = new int[5];
            for (int j = 0; j < 20; j++) {
                numbers[j / 4] = numbers[j / 4] << 8 | padded[i + j] & 255;
            }
            x.feed(numbers[0], numbers[1], numbers[2], numbers[3], numbers[4]);
        }
        x.end(had + bytes.length);
    }

    static int tellGame(LastLoses x, String text) {
        tell(x, text.getBytes(StandardCharsets.ISO_8859_1));
        return x.game();
    }

    static LastLoses told(String text) {
        LastLoses x = new LastLoses();
        int answer = tellGame(x, text);
        if (answer < 1) {
            due("the game " + text, answer, 1);
        }
        return x;
    }

    /** The text of a wrong game is told to a new object. */
    static void fault(String text, int place, int kind) {
        due("'" + text + "'", tellGame(new LastLoses(), text), -2 - (8 * place + kind));
    }

    static void lines(String text, int lines) {
        due("'" + text + "'", tellGame(new LastLoses(), text), lines);
    }

    static LastLoses told(String text, int... hand) {
        LastLoses x = told(text);
        put(x, hand);
        return x;
    }

    static void put(LastLoses x, int... heaps) {
        for (int heap : heaps) {
            x.put(heap);
        }
    }

    /** The hand, or any answer by heap, told as its beans and then its heaps of 1 to 12. */
    static void heaps(String what, IntUnaryOperator answer, int... heaps) {
        int beans = 0;
        int[] counts = new int[13];
        for (int heap : heaps) {
            beans += heap;
            counts[heap]++;
        }
        due(what + " beans", answer.applyAsInt(0), beans);
        for (int heap = 1; heap <= 12; heap++) {
            due(what + " heaps of " + heap, answer.applyAsInt(heap), counts[heap]);
        }
    }
}
