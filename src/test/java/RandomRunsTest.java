import java.lang.reflect.InvocationTargetException;
import java.lang.reflect.Method;
import java.util.ArrayList;
import java.util.Arrays;
import java.util.Comparator;
import java.util.List;
import java.util.Map;
import java.util.Random;
import java.util.TreeMap;

/** Runs of drawn calls, the class and the plain model side by side; every answer must be the same. */
public final class RandomRunsTest {
    private static final int RUNS = 700;
    private static final int CALLS = 512;

    private final Random random;
    private final LastLoses object = new LastLoses();
    private final Model model = new Model();
    private final List<String> calls = new ArrayList<>();
    private final Map<String, Map<Integer, Integer>> seen;
    private int made;
    private boolean wrong;

    private RandomRunsTest(long seed, Map<String, Map<Integer, Integer>> seen) {
        random = new Random(seed);
        this.seen = seen;
    }

    public static void main(String[] args) throws ReflectiveOperationException {
        int runs = Integer.getInteger("runs", RUNS);
        int from = Integer.getInteger("from", 0);
        Map<String, Map<Integer, Integer>> seen = new TreeMap<>();
        int wrong = 0;
        for (int run = from; run < from + runs && wrong < 3; run++) {
            RandomRunsTest test = new RandomRunsTest(run, seen);
            test.run();
            if (test.wrong) {
                wrong++;
                System.out.println("in run " + run);
            }
        }
        if (Boolean.getBoolean("seen")) {
            for (Map.Entry<String, Map<Integer, Integer>> entry : seen.entrySet()) {
                System.out.println(entry.getKey() + " " + entry.getValue());
            }
        }
        System.out.println(runs + " runs, " + wrong + " with a wrong answer");
        System.exit(wrong == 0 ? 0 : 1);
    }

    private static final List<Method> METHODS = methods();

    private static List<Method> methods() {
        List<Method> all = new ArrayList<>();
        for (Method method : LastLoses.class.getDeclaredMethods()) {
            if (java.lang.reflect.Modifier.isPublic(method.getModifiers())) {
                all.add(method);
            }
        }
        all.sort(Comparator.comparing(Method::getName));
        return all;
    }

    private void run() throws ReflectiveOperationException {
        int size = random.nextInt(10) == 0 ? random.nextInt(CALLS) : 20 + random.nextInt(100);
        if (random.nextInt(10) > 0) {
            tellGame(true);
        }
        while (made < size && !wrong) {
            int kind = random.nextInt(100);
            if (kind < 2) {
                tellGame(random.nextInt(3) > 0);
            } else if (kind < 5) {
                tellHeaps();
            } else if (kind < 25) {
                play();
            } else if (kind < 40) {
                study();
            } else if (kind < 45) {
                compare();
            } else {
                anyCall();
            }
        }
    }

    private int small() {
        int kind = random.nextInt(40);
        if (kind == 0) {
            return random.nextInt();
        }
        if (kind == 1) {
            return random.nextBoolean() ? Integer.MIN_VALUE : Integer.MAX_VALUE;
        }
        if (kind < 6) {
            return random.nextInt(30) - 4;
        }
        return kind < 15 ? random.nextInt(15) - 1 : random.nextInt(8);
    }

    private void anyCall() throws ReflectiveOperationException {
        Method method = METHODS.get(random.nextInt(METHODS.size()));
        int[] args = new int[method.getParameterCount()];
        for (int i = 0; i < args.length; i++) {
            args[i] = small();
        }
        call(method.getName(), args);
    }

    private void play() throws ReflectiveOperationException {
        int kind = random.nextInt(12);
        if (kind < 5) {
            call("put", 1 + random.nextInt(random.nextBoolean() ? 12 : 4));
        } else if (kind < 8) {
            int heap = 1 + random.nextInt(12);
            for (int h = 1; h <= 12; h++) {
                heap = model.hand(heap) > 0 ? heap : 1 + heap % 12;
            }
            int k = random.nextInt(5);
            int a = Math.max(0, model.option(heap, k, 0));
            int b = Math.max(0, model.option(heap, k, 1));
            if (random.nextInt(4) == 0) {
                call("move", heap, b, a);
            } else {
                call("move", heap, a, b);
            }
        } else if (kind < 9) {
            call("reply");
        } else if (kind < 10) {
            call("keep", random.nextInt(3));
        } else if (kind < 11) {
            call("undo");
        } else {
            call(random.nextInt(4) == 0 ? "clear" : "reply");
        }
    }

    private void study() throws ReflectiveOperationException {
        int n = 1 + random.nextInt(6);
        call("elements", n);
        int size = Math.max(1, model.elements(n));
        int one = random.nextInt(size + random.nextInt(2));
        int other = random.nextInt(size);
        call("word", n, one, random.nextInt(n + 1));
        call("next", n, one, 1 + random.nextInt(n));
        call("times", n, one, other);
        call("sets", n, random.nextInt(4));
        call("power", n, other, random.nextInt(2));
        call(List.of("pairs", "proved", "stays").get(random.nextInt(3)), n);
    }

    private void compare() throws ReflectiveOperationException {
        call("clear");
        for (int i = random.nextInt(3); i >= 0; i--) {
            call("put", 1 + random.nextInt(7));
        }
        int k = random.nextInt(3);
        call("simplest", random.nextInt(8));
        call("keep", k);
        call(random.nextBoolean() ? "reply" : "undo");
        call("put", 1 + random.nextInt(4));
        call("apart", k, random.nextInt(8));
        call("apart", random.nextInt(3), random.nextInt(8));
    }

    private void tellHeaps() throws ReflectiveOperationException {
        call("end", 0);
        int most = 1 + random.nextInt(6);
        byte[] heaps = new byte[random.nextInt(random.nextInt(6) == 0 ? 200 : 30)];
        for (int i = 0; i < heaps.length; i++) {
            heaps[i] = (byte) (1 + random.nextInt(most));
        }
        if (heaps.length > 0 && random.nextInt(5) == 0) {
            heaps[random.nextInt(heaps.length)] = (byte) (random.nextBoolean() ? 0 : random.nextInt(256));
        }
        tell(heaps);
        call("place", most + (random.nextInt(6) == 0 ? 1 : 0));
    }

    private void tell(byte[] bytes) throws ReflectiveOperationException {
        byte[] padded = Arrays.copyOf(bytes, (bytes.length + 19) / 20 * 20);
        for (int i = 0; i < padded.length; i += 20) {
            int[] args = new int[5];
            for (int j = 0; j < 20; j++) {
                args[j / 4] = args[j / 4] << 8 | padded[i + j] & 255;
            }
            call("feed", args);
        }
        call("end", bytes.length);
    }

    private void tellGame(boolean good) throws ReflectiveOperationException {
        if (random.nextInt(6) > 0) {
            call("end", 0);
        }
        StringBuilder text = new StringBuilder(text(good));
        if (!good) {
            int spoils = random.nextInt(3);
            for (int i = 0; i < spoils && text.length() > 0; i++) {
                spoil(text);
            }
        }
        text.setLength(Math.min(200, text.length()));
        byte[] bytes = text.toString().getBytes(java.nio.charset.StandardCharsets.ISO_8859_1);
        tell(bytes);
        call("game");
    }

    private void spoil(StringBuilder text) {
        String signs = "0123456789 ;.octalsnevr\n\u00e9A";
        int at = random.nextInt(text.length());
        char sign = signs.charAt(random.nextInt(signs.length()));
        int kind = random.nextInt(4);
        if (kind == 0) {
            text.setCharAt(at, sign);
        } else if (kind == 1) {
            text.insert(at, sign);
        } else if (kind == 2) {
            text.deleteCharAt(at);
        } else {
            text.setLength(at);
        }
    }

    private String gap(boolean must) {
        int kind = random.nextInt(8);
        if (must) {
            return kind == 0 ? "  " : " ";
        }
        return kind == 0 ? " " : kind == 1 ? "   " : "";
    }

    private String text(boolean good) {
        StringBuilder text = new StringBuilder(gap(false));
        text.append("octal").append(gap(false)).append('.').append(gap(false));
        int digits = 1 + random.nextInt(random.nextInt(3) == 0 ? 8 : 4);
        for (int i = 0; i < digits; i++) {
            text.append((char) ('0' + random.nextInt(random.nextInt(3) == 0 ? 4 : 8)));
        }
        int lines = random.nextInt(3) > 0 ? 0 : random.nextInt(random.nextInt(4) == 0 ? 17 : 5);
        if (good) {
            lines = Math.min(lines, 15);
        }
        for (int i = 0; i < lines; i++) {
            text.append(gap(false)).append(';').append(gap(false));
            appendLine(text, good);
        }
        return text.append(gap(false)).toString();
    }

    private void appendLine(StringBuilder text, boolean good) {
        int off = good || random.nextInt(6) > 0 ? 0 : random.nextInt(3);
        int heap = 1 + random.nextInt(12) + off;
        if (random.nextInt(3) == 0) {
            text.append("never").append(gap(false)).append(heap).append(gap(true)).append(1 + random.nextInt(8) + off);
            return;
        }
        int second = random.nextInt(heap) + off;
        text.append("also").append(gap(false)).append(heap).append(gap(false)).append("to").append(gap(false));
        text.append(random.nextInt(9) == 0 ? "0" : "").append(second);
        if (random.nextBoolean() && heap > second) {
            text.append(gap(true)).append(random.nextInt(heap - second) + off);
        }
    }

    private void call(String name, int... args) throws ReflectiveOperationException {
        if (wrong || made >= CALLS) {
            return;
        }
        made++;
        Class<?>[] types = new Class<?>[args.length];
        Object[] values = new Object[args.length];
        for (int i = 0; i < args.length; i++) {
            types[i] = int.class;
            values[i] = args[i];
        }
        String told = name + Arrays.toString(args);
        calls.add(told);
        String before = model.describe();
        int due = (Integer) Model.class.getDeclaredMethod(name, types).invoke(model, values);
        int got;
        try {
            got = (Integer) LastLoses.class.getMethod(name, types).invoke(object, values);
        } catch (InvocationTargetException thrown) {
            wrong = true;
            thrown.getCause().printStackTrace(System.out);
            System.out.println(told + " threw; before: " + before);
            return;
        }
        seen.computeIfAbsent(name, key -> new TreeMap<>()).merge(due, 1, Integer::sum);
        if (got != due) {
            wrong = true;
            System.out.println(told + " answered " + got + ", due is " + due + "; before: " + before);
        }
    }
}
