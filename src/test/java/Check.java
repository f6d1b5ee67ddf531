import java.nio.charset.StandardCharsets;
import java.util.Arrays;

/** What the tests of the promises share: comparing answers, and telling texts as bytes. */
final class Check {
    private static int wrong;
    private static int checks;

    private Check() {
    }

    static void due(String what, int got, int want) {
        checks++;
        if (got != want) {
            wrong++;
            System.out.println(what + ": answered " + got + ", due is " + want);
        }
    }

    static void finish(String name) {
        System.out.println(name + ": " + checks + " answers, " + wrong + " wrong");
        System.exit(wrong == 0 && checks > 0 ? 0 : 1);
    }

    /** The bytes come on the tape behind what it has, and nothing else does. */
    static void tell(LastLoses x, byte[] bytes) {
        int had = x.count(5);
        byte[] padded = Arrays.copyOf(bytes, (bytes.length + 19) / 20 * 20);
        for (int i = 0; i < padded.length; i += 20) {
            int[] numbers = new int[5];
            for (int j = 0; j < 20; j++) {
                numbers[j / 4] = numbers[j / 4] << 8 | padded[i + j] & 255;
            }
            x.feed(numbers[0], numbers[1], numbers[2], numbers[3], numbers[4]);
        }
        x.end(had + bytes.length);
    }

    static int tellGame(LastLoses x, String text) {
        tell(x, text.getBytes(StandardCharsets.ISO_8859_1));
        return x.game();
    }

    static LastLoses told(String text) {
        LastLoses x = new LastLoses();
        int answer = tellGame(x, text);
        if (answer < 1) {
            due("the game " + text, answer, 1);
        }
        return x;
    }

    static LastLoses told(String text, int... hand) {
        LastLoses x = told(text);
        put(x, hand);
        return x;
    }

    static void put(LastLoses x, int... heaps) {
        for (int heap : heaps) {
            x.put(heap);
        }
    }

    /** The hand, or any answer by heap, told as its beans and then its heaps of 1 to 12. */
    static void heaps(String what, java.util.function.IntUnaryOperator answer, int... heaps) {
        int beans = 0;
        int[] counts = new int[13];
        for (int heap : heaps) {
            beans += heap;
            counts[heap]++;
        }
        due(what + " beans", answer.applyAsInt(0), beans);
        for (int heap = 1; heap <= 12; heap++) {
            due(what + " heaps of " + heap, answer.applyAsInt(heap), counts[heap]);
        }
    }
}
