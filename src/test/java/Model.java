import java.util.ArrayDeque;
import java.util.ArrayList;
import java.util.Arrays;
import java.util.Collections;
import java.util.HashMap;
import java.util.HashSet;
import java.util.List;
import java.util.Map;
import java.util.Set;
import java.util.TreeSet;

/**
 * The document once more, told as slowly and plainly as its words are: lists, maps and recursion
 * instead of numbered tables. RandomRunsTest holds the class against it.
 */
final class Model {
    static final int NONE = -1;

    record Move(int heap, int a, int b) {
        int code() {
            return 1000 * heap + 13 * a + b;
        }
    }

    record Token(char kind, int place, String text) {
    }

    record Pair(int element, Set<Integer> set) {
    }

    static final class Fault extends RuntimeException {
        final int number;

        Fault(int place, int kind) {
            number = 8 * place + kind;
        }
    }

    /** One told game: nothing of it changes but what it remembers. */
    static final class Told {
        String digits = "";
        int lines;
        final List<int[]> also = new ArrayList<>();
        final List<int[]> never = new ArrayList<>();
        final Map<Integer, List<Move>> moves = new HashMap<>();
        final Map<List<Integer>, Integer> remotes = new HashMap<>();
        final Map<List<Integer>, Boolean> wins = new HashMap<>();
        final Map<List<List<Integer>>, Integer> backs = new HashMap<>();
        final Map<Integer, Quotient> quotients = new HashMap<>();

        List<Move> movesOf(int h) {
            return moves.computeIfAbsent(h, this::listMoves);
        }

        private List<Move> listMoves(int h) {
            List<Move> all = new ArrayList<>();
            for (int a = 0; a < h; a++) {
                for (int b = a; a + b < h; b++) {
                    if (isAlso(h, a, b) || byCode(h, a, b)) {
                        all.add(new Move(h, a, b));
                    }
                }
            }
            all.sort((m, o) -> m.a + m.b != o.a + o.b ? o.a + o.b - m.a - m.b : m.a - o.a);
            return all;
        }

        private boolean isAlso(int h, int a, int b) {
            for (int[] line : also) {
                if (line[0] == h && (line[1] == a && line[2] == b || line[1] == b && line[2] == a)) {
                    return true;
                }
            }
            return false;
        }

        private boolean byCode(int h, int a, int b) {
            int k = h - a - b;
            if (k > digits.length()) {
                return false;
            }
            for (int[] line : never) {
                if (line[0] == h && line[1] == k) {
                    return false;
                }
            }
            int need = a == 0 && b == 0 ? 1 : a == 0 ? 2 : 4;
            return (digits.charAt(k - 1) - '0') / need % 2 == 1;
        }

        List<Integer> after(List<Integer> position, Move move) {
            List<Integer> then = new ArrayList<>(position);
            then.remove(Integer.valueOf(move.heap));
            if (move.a > 0) {
                then.add(move.a);
            }
            if (move.b > 0) {
                then.add(move.b);
            }
            Collections.sort(then);
            return then;
        }

        /** Every heap's moves, like heaps each. */
        List<Move> allMoves(List<Integer> position) {
            List<Move> all = new ArrayList<>();
            for (int heap : position) {
                all.addAll(movesOf(heap));
            }
            return all;
        }

        List<Move> onceMoves(List<Integer> position) {
            List<Move> all = new ArrayList<>();
            for (int heap : new TreeSet<>(position)) {
                all.addAll(movesOf(heap));
            }
            return all;
        }

        boolean wins(List<Integer> position) {
            Boolean known = wins.get(position);
            if (known != null) {
                return known;
            }
            List<Move> all = onceMoves(position);
            boolean won = all.isEmpty();
            for (Move move : all) {
                won |= !wins(after(position, move));
            }
            wins.put(position, won);
            return won;
        }

        int remote(List<Integer> position) {
            Integer known = remotes.get(position);
            if (known != null) {
                return known;
            }
            int least = 1000;
            int greatest = -1;
            for (Move move : onceMoves(position)) {
                List<Integer> then = after(position, move);
                greatest = Math.max(greatest, remote(then));
                if (!wins(then)) {
                    least = Math.min(least, remote(then));
                }
            }
            int answer = greatest < 0 ? 0 : 1 + (wins(position) ? least : greatest);
            remotes.put(position, answer);
            return answer;
        }

        int nimber(int heap) {
            Set<Integer> seen = new HashSet<>();
            for (Move move : movesOf(heap)) {
                seen.add((move.a == 0 ? 0 : nimber(move.a)) ^ (move.b == 0 ? 0 : nimber(move.b)));
            }
            return mex(seen);
        }

        int nimber(List<Integer> position) {
            int sum = 0;
            for (int heap : position) {
                sum ^= nimber(heap);
            }
            return sum;
        }

        int back(List<Integer> position, List<Integer> nim) {
            List<List<Integer>> key = List.of(position, nim);
            Integer known = backs.get(key);
            if (known != null) {
                return known;
            }
            Set<Integer> seen = new HashSet<>();
            for (Move move : onceMoves(position)) {
                seen.add(back(after(position, move), nim));
            }
            for (int heap : nim) {
                for (int left = 0; left < heap; left++) {
                    List<Integer> then = new ArrayList<>(nim);
                    then.remove(Integer.valueOf(heap));
                    if (left > 0) {
                        then.add(left);
                    }
                    Collections.sort(then);
                    seen.add(back(position, then));
                }
            }
            int answer = seen.isEmpty() ? 1 : mex(seen);
            backs.put(key, answer);
            return answer;
        }

        int genus(List<Integer> position, int k) {
            return back(position, Collections.nCopies(k, 2));
        }

        boolean tame(List<Integer> position) {
            int n = nimber(position);
            List<Integer> genus = List.of(genus(position, 0), genus(position, 1), genus(position, 2));
            return genus.equals(List.of(n, n ^ 2, n))
                    || n == 0 && genus.equals(List.of(1, 2, 0))
                    || n == 1 && genus.equals(List.of(0, 3, 1));
        }

        boolean likeNim(List<Integer> position) {
            boolean all = true;
            for (int heap : position) {
                all &= nimber(heap) == 0 || nimber(heap) == 1;
            }
            return !wins(position) == (all ? nimber(position) == 1 : nimber(position) == 0);
        }

        final Map<List<Integer>, int[]> lengths = new HashMap<>();

        int[] lengths(List<Integer> position) {
            int[] known = lengths.get(position);
            if (known != null) {
                return known;
            }
            int[] answer = {1000, -1};
            for (Move move : onceMoves(position)) {
                int[] then = lengths(after(position, move));
                answer[0] = Math.min(answer[0], 1 + then[0]);
                answer[1] = Math.max(answer[1], 1 + then[1]);
            }
            if (answer[1] < 0) {
                answer = new int[] {0, 0};
            }
            lengths.put(position, answer);
            return answer;
        }

        int[] period() {
            int d = digits.length();
            int[] g = new int[400];
            for (int n = 1; n < 400; n++) {
                Set<Integer> seen = new HashSet<>();
                for (int k = 1; k <= d && k <= n; k++) {
                    int digit = digits.charAt(k - 1) - '0';
                    int left = n - k;
                    if (left == 0 && digit % 2 == 1) {
                        seen.add(0);
                    }
                    if (left > 0 && digit / 2 % 2 == 1) {
                        seen.add(g[left]);
                    }
                    for (int a = 1; a < left && digit / 4 == 1; a++) {
                        seen.add(g[a] ^ g[left - a]);
                    }
                }
                g[n] = mex(seen);
            }
            for (int p = 1; p <= 160; p++) {
                for (int e = 1; 2 * e + 2 * p + d <= 160; e++) {
                    boolean all = true;
                    for (int n = e; n <= 2 * e + p + d - 1; n++) {
                        all &= g[n + p] == g[n];
                    }
                    if (all) {
                        return new int[] {p, e};
                    }
                }
            }
            return null;
        }

        Quotient quotient(int n) {
            return quotients.computeIfAbsent(n, m -> new Quotient(this, m));
        }
    }

    static int mex(Set<Integer> seen) {
        int least = 0;
        while (seen.contains(least)) {
            least++;
        }
        return least;
    }

    static final Map<Integer, List<List<Integer>>> BY_BEANS = new HashMap<>();

    /** All positions of so many beans in the document's order. */
    static List<List<Integer>> positionsOf(int beans) {
        return BY_BEANS.computeIfAbsent(beans, b -> {
            List<List<Integer>> all = new ArrayList<>();
            gather(b, 12, new ArrayList<>(), all);
            all.sort((one, other) -> {
                for (int heap = 1; heap <= 12; heap++) {
                    int less = Collections.frequency(one, heap) - Collections.frequency(other, heap);
                    if (less != 0) {
                        return less;
                    }
                }
                return 0;
            });
            return all;
        });
    }

    private static void gather(int left, int most, List<Integer> heaps, List<List<Integer>> all) {
        if (left == 0) {
            List<Integer> position = new ArrayList<>(heaps);
            Collections.sort(position);
            all.add(position);
        }
        for (int heap = Math.min(left, most); heap >= 1; heap--) {
            heaps.add(heap);
            gather(left - heap, heap, heaps, all);
            heaps.remove(heaps.size() - 1);
        }
    }

    static List<List<Integer>> upTo(int beans) {
        List<List<Integer>> all = new ArrayList<>();
        for (int b = 0; b <= beans; b++) {
            all.addAll(positionsOf(b));
        }
        return all;
    }

    static int beans(List<Integer> position) {
        int sum = 0;
        for (int heap : position) {
            sum += heap;
        }
        return sum;
    }

    static List<Integer> beside(List<Integer> one, List<Integer> other) {
        List<Integer> both = new ArrayList<>(one);
        both.addAll(other);
        Collections.sort(both);
        return both;
    }

    static int tally(List<Integer> position, int heap) {
        return heap == 0 ? beans(position) : Collections.frequency(position, heap);
    }

    static final class Quotient {
        final Told told;
        final int n;
        final List<List<Integer>> words = new ArrayList<>();
        final List<Map<Integer, Integer>> next = new ArrayList<>();
        boolean unknown;
        Set<Pair> pairs;
        boolean manyPairs;

        Quotient(Told told, int n) {
            this.told = told;
            this.n = n;
            List<List<Integer>> tests = new ArrayList<>();
            for (List<Integer> test : upTo(7)) {
                if (test.isEmpty() || Collections.max(test) <= n) {
                    tests.add(test);
                }
            }
            List<Set<List<Integer>>> marks = new ArrayList<>();
            words.add(List.of());
            marks.add(mark(List.of(), tests));
            for (int e = 0; e < words.size(); e++) {
                next.add(new HashMap<>());
                for (int h = 1; h <= n; h++) {
                    List<Integer> word = beside(words.get(e), List.of(h));
                    if (beans(word) > 15) {
                        unknown = true;
                        return;
                    }
                    Set<List<Integer>> mark = mark(word, tests);
                    int found = marks.indexOf(mark);
                    if (found < 0) {
                        if (words.size() == 16) {
                            unknown = true;
                            return;
                        }
                        found = words.size();
                        words.add(word);
                        marks.add(mark);
                    }
                    next.get(e).put(h, found);
                }
            }
        }

        private Set<List<Integer>> mark(List<Integer> position, List<List<Integer>> tests) {
            Set<List<Integer>> mark = new HashSet<>();
            for (List<Integer> test : tests) {
                if (!told.wins(beside(position, test))) {
                    mark.add(test);
                }
            }
            return mark;
        }

        boolean has(int e) {
            return e >= 0 && e < words.size();
        }

        boolean lost(int e) {
            return !told.wins(words.get(e));
        }

        int step(int e, int h) {
            return h == 0 ? e : next.get(e).get(h);
        }

        int times(int e, int f) {
            return walk(e, words.get(f));
        }

        int walk(int e, List<Integer> sorted) {
            int at = e;
            for (int h : sorted) {
                at = step(at, h);
            }
            return at;
        }

        boolean steady() {
            for (int e = 0; e < words.size(); e++) {
                for (int g = 1; g <= n; g++) {
                    for (int h = 1; h <= n; h++) {
                        if (step(step(e, g), h) != step(step(e, h), g)) {
                            return false;
                        }
                    }
                }
            }
            return true;
        }

        void findPairs() {
            if (pairs != null) {
                return;
            }
            pairs = new HashSet<>();
            ArrayDeque<Pair> open = new ArrayDeque<>();
            Pair first = new Pair(0, Set.of());
            pairs.add(first);
            open.add(first);
            while (!open.isEmpty() && !manyPairs) {
                Pair pair = open.remove();
                for (int h = 1; h <= n; h++) {
                    Set<Integer> set = new HashSet<>();
                    for (int s : pair.set) {
                        set.add(step(s, h));
                    }
                    for (Move move : told.movesOf(h)) {
                        set.add(step(step(pair.element, move.a), move.b));
                    }
                    Pair then = new Pair(step(pair.element, h), set);
                    if (pairs.add(then)) {
                        open.add(then);
                    }
                }
                manyPairs = pairs.size() > 2000;
            }
        }

        boolean proved() {
            findPairs();
            if (!steady() || manyPairs) {
                return false;
            }
            for (Pair pair : pairs) {
                boolean anyLost = false;
                for (int s : pair.set) {
                    anyLost |= lost(s);
                }
                boolean fits = pair.set.isEmpty() ? !lost(pair.element) : lost(pair.element) == !anyLost;
                if (!fits) {
                    return false;
                }
            }
            return true;
        }

        boolean inSet(int f, int what) {
            if (what == 0) {
                return lost(f);
            }
            if (what == 3) {
                return times(f, f) == f;
            }
            for (int e = 0; e < words.size(); e++) {
                boolean reached = false;
                for (int g = 0; g < words.size(); g++) {
                    reached |= what == 1 ? times(e, g) == f : times(f, g) == 0;
                }
                if (!reached) {
                    return false;
                }
            }
            return true;
        }

        boolean alike(Quotient other) {
            if (other.unknown || other.words.size() != words.size()) {
                return false;
            }
            for (int e = 0; e < words.size(); e++) {
                if (lost(e) != other.lost(e)) {
                    return false;
                }
                for (int h = 1; h <= n; h++) {
                    if (step(e, h) != other.step(e, h)) {
                        return false;
                    }
                }
            }
            return true;
        }
    }

    private final List<Integer> tape = new ArrayList<>();
    private Told told;
    private List<Integer> hand = List.of();
    private final List<List<Integer>> acts = new ArrayList<>();
    private final Map<Integer, List<Integer>> kept = new HashMap<>();
    private int x;

    int feed(int a, int b, int c, int d, int e) {
        if (tape.size() > 180) {
            return NONE;
        }
        for (int number : new int[] {a, b, c, d, e}) {
            long unsigned = number & 0xffffffffL;
            tape.add((int) (unsigned / 16777216));
            tape.add((int) (unsigned / 65536 % 256));
            tape.add((int) (unsigned / 256 % 256));
            tape.add((int) (unsigned % 256));
        }
        return tape.size();
    }

    int end(int n) {
        if (n < 0 || n > tape.size()) {
            return NONE;
        }
        while (tape.size() > n) {
            tape.remove(tape.size() - 1);
        }
        return n;
    }

    private List<Token> tokens;
    private int at;

    private void split() {
        tokens = new ArrayList<>();
        at = 0;
        int i = 0;
        while (i < tape.size()) {
            int b = tape.get(i);
            if (b == 32) {
                i++;
                continue;
            }
            char kind = kindOf(b);
            int j = i + 1;
            while (kind != '?' && j < tape.size() && kindOf(tape.get(j)) == kind) {
                j++;
            }
            StringBuilder text = new StringBuilder();
            for (int k = i; k < j; k++) {
                text.append((char) (int) tape.get(k));
            }
            tokens.add(new Token(kind, i, text.toString()));
            i = j;
        }
        tokens.add(new Token('.', tape.size(), "END"));
    }

    private static char kindOf(int b) {
        return b >= 'a' && b <= 'z' ? 'w' : b >= '0' && b <= '9' ? 'n' : '?';
    }

    private Token expect(char kind, String text) {
        Token token = tokens.get(at);
        if (token.kind != kind || text != null && !token.text.equals(text)) {
            throw new Fault(token.place, 1);
        }
        at++;
        return token;
    }

    private int number(int least, int most) {
        Token token = expect('n', null);
        if (token.text.length() > 3) {
            throw new Fault(token.place, 2);
        }
        int value = Integer.parseInt(token.text);
        if (value < least || value > most) {
            throw new Fault(token.place, 2);
        }
        return value;
    }

    private Told parse() {
        Told read = new Told();
        while (true) {
            Token word = tokens.get(at);
            if (word.kind != 'w' || !List.of("octal", "also", "never").contains(word.text)) {
                throw new Fault(word.place, 1);
            }
            at++;
            if (read.lines == 16 || word.text.equals("octal") != (read.lines == 0)) {
                throw new Fault(word.place, 4);
            }
            read.lines++;
            parseLine(read, word.text);
            Token token = tokens.get(at);
            if (token.kind == '.') {
                return read;
            }
            expect('?', ";");
        }
    }

    private void parseLine(Told read, String word) {
        if (word.equals("octal")) {
            expect('?', ".");
            Token digits = expect('n', null);
            for (int i = 0; i < digits.text.length(); i++) {
                if (i == 8 || digits.text.charAt(i) > '7') {
                    throw new Fault(digits.place + i, 3);
                }
            }
            read.digits = digits.text;
        } else if (word.equals("also")) {
            int h = number(1, 12);
            expect('w', "to");
            int second = number(0, h - 1);
            int third = tokens.get(at).kind == 'n' ? number(0, h - 1 - second) : 0;
            read.also.add(new int[] {h, second, third});
        } else {
            int h = number(1, 12);
            read.never.add(new int[] {h, number(1, 8)});
        }
    }

    int game() {
        split();
        tape.clear();
        try {
            told = parse();
        } catch (Fault fault) {
            return -2 - fault.number;
        }
        hand = List.of();
        acts.clear();
        kept.clear();
        return told.lines;
    }

    private static boolean in(int value, int least, int most) {
        return value >= least && value <= most;
    }

    int moves(int heap) {
        return told == null || !in(heap, 1, 12) ? NONE : told.movesOf(heap).size();
    }

    int option(int heap, int k, int what) {
        if (told == null || !in(heap, 1, 12) || !in(what, 0, 1) || !in(k, 0, told.movesOf(heap).size() - 1)) {
            return NONE;
        }
        Move move = told.movesOf(heap).get(k);
        return what == 0 ? move.a : move.b;
    }

    int nimber(int heap) {
        return told == null || !in(heap, 1, 12) ? NONE : told.nimber(heap);
    }

    int period(int what) {
        if (told == null || !in(what, 0, 1)) {
            return NONE;
        }
        if (told.lines > 1) {
            return -3;
        }
        int[] found = told.period();
        return found == null ? -2 : found[what];
    }

    int odd(int heap) {
        if (told == null || !in(heap, 0, 12)) {
            return NONE;
        }
        for (List<Integer> position : upTo(12)) {
            if (!told.likeNim(position)) {
                return tally(position, heap);
            }
        }
        return -2;
    }

    int wild(int heap) {
        if (told == null || !in(heap, 0, 12)) {
            return NONE;
        }
        for (List<Integer> position : upTo(12)) {
            if (!told.tame(position)) {
                return tally(position, heap);
            }
        }
        return -2;
    }

    private void act(List<Integer> then) {
        acts.add(hand);
        if (acts.size() > 30) {
            acts.remove(0);
        }
        hand = then;
    }

    int put(int heap) {
        if (told == null || !in(heap, 1, 12) || beans(hand) + heap > 22) {
            return NONE;
        }
        act(beside(hand, List.of(heap)));
        return beans(hand);
    }

    int move(int heap, int a, int b) {
        if (told == null || !hand.contains(heap) || !told.movesOf(heap).contains(new Move(heap, a, b))) {
            return NONE;
        }
        act(told.after(hand, new Move(heap, a, b)));
        return told.wins(hand) ? 1 : 0;
    }

    private List<Move> winning(List<Integer> position) {
        List<Move> all = new ArrayList<>();
        for (Move move : told.onceMoves(position)) {
            if (!told.wins(told.after(position, move))) {
                all.add(move);
            }
        }
        return all;
    }

    int reply() {
        if (told == null) {
            return NONE;
        }
        List<Move> all = winning(hand);
        if (all.isEmpty()) {
            return -2;
        }
        act(told.after(hand, all.get(0)));
        return all.get(0).code();
    }

    int clear() {
        if (hand.isEmpty()) {
            return NONE;
        }
        int had = beans(hand);
        act(List.of());
        return had;
    }

    int undo() {
        if (acts.isEmpty()) {
            return NONE;
        }
        hand = acts.remove(acts.size() - 1);
        return acts.size();
    }

    int hand(int heap) {
        return in(heap, 0, 12) ? tally(hand, heap) : NONE;
    }

    int state(int what) {
        if (told == null || !in(what, 0, 8)) {
            return NONE;
        }
        int winningMoves = 0;
        for (Move move : told.allMoves(hand)) {
            winningMoves += told.wins(told.after(hand, move)) ? 0 : 1;
        }
        return switch (what) {
            case 0 -> told.wins(hand) ? 1 : 0;
            case 1 -> told.remote(hand);
            case 2 -> told.nimber(hand);
            case 3 -> told.back(hand, List.of());
            case 4 -> winningMoves;
            case 5 -> told.likeNim(hand) ? 1 : 0;
            case 6 -> told.lengths(hand)[0];
            case 7 -> told.lengths(hand)[1];
            default -> told.tame(hand) ? 1 : 0;
        };
    }

    int genus(int k) {
        return told == null || !in(k, 0, 2) ? NONE : told.genus(hand, k);
    }

    int line(int k) {
        if (told == null || k < 0) {
            return NONE;
        }
        List<Integer> position = hand;
        List<Move> line = new ArrayList<>();
        while (!told.onceMoves(position).isEmpty()) {
            boolean wins = told.wins(position);
            Move best = null;
            for (Move move : wins ? winning(position) : told.onceMoves(position)) {
                int remote = told.remote(told.after(position, move));
                int now = best == null ? 0 : told.remote(told.after(position, best));
                if (best == null || (wins ? remote < now : remote > now)) {
                    best = move;
                }
            }
            line.add(best);
            position = told.after(position, best);
        }
        return k < line.size() ? line.get(k).code() : -2;
    }

    int losers(int beans, int heap) {
        if (told == null || !in(beans, 0, 22) || heap != NONE && !in(heap, 1, 12)) {
            return NONE;
        }
        List<List<Integer>> all = new ArrayList<>();
        for (List<Integer> position : positionsOf(beans)) {
            if (!told.wins(position)) {
                all.add(position);
            }
        }
        if (heap == NONE) {
            return all.size();
        }
        return all.isEmpty() ? -2 : tally(all.get(0), heap);
    }

    int keep(int k) {
        if (told == null || !in(k, 0, 2)) {
            return NONE;
        }
        kept.put(k, hand);
        return beans(hand);
    }

    private List<Integer> between(List<Integer> one, List<Integer> other) {
        for (List<Integer> test : upTo(7)) {
            if (told.wins(beside(one, test)) != told.wins(beside(other, test))) {
                return test;
            }
        }
        return null;
    }

    int apart(int k, int heap) {
        if (!kept.containsKey(k) || !in(heap, 0, 12)) {
            return NONE;
        }
        if (beans(hand) > 15 || beans(kept.get(k)) > 15) {
            return -3;
        }
        List<Integer> test = between(hand, kept.get(k));
        return test == null ? -2 : tally(test, heap);
    }

    int simplest(int heap) {
        if (told == null || !in(heap, 0, 12)) {
            return NONE;
        }
        if (beans(hand) > 15) {
            return -3;
        }
        for (List<Integer> position : upTo(7)) {
            if (between(position, hand) == null) {
                return tally(position, heap);
            }
        }
        return -2;
    }

    int answers(int k) {
        if (told == null || k < -1) {
            return NONE;
        }
        List<Move> all = winning(hand);
        if (k == NONE) {
            return all.size();
        }
        return k < all.size() ? all.get(k).code() : -2;
    }

    int draws(int to) {
        if (to < 0) {
            return NONE;
        }
        int was = x;
        x = to;
        return was;
    }

    int games(int m, int what) {
        if (told == null || !in(m, 1, 20) || !in(what, 0, 1)) {
            return NONE;
        }
        long drawn = x;
        int wins = 0;
        int made = 0;
        for (int i = 0; i < m; i++) {
            List<Integer> position = hand;
            boolean beginnerToMove = true;
            while (!told.allMoves(position).isEmpty()) {
                List<Move> all = told.allMoves(position);
                drawn = (drawn * 1103515245L + 12345L) % 2147483648L;
                position = told.after(position, all.get((int) (drawn / 65536 % all.size())));
                made++;
                beginnerToMove = !beginnerToMove;
            }
            wins += beginnerToMove ? 1 : 0;
        }
        return what == 0 ? wins : made;
    }

    private boolean noQuotient(int n) {
        return told == null || !in(n, 1, 6);
    }

    int elements(int n) {
        if (noQuotient(n)) {
            return NONE;
        }
        Quotient q = told.quotient(n);
        return q.unknown ? -3 : q.words.size();
    }

    int word(int n, int element, int heap) {
        if (noQuotient(n) || !in(heap, 0, n)) {
            return NONE;
        }
        Quotient q = told.quotient(n);
        return q.unknown ? -3 : !q.has(element) ? NONE : tally(q.words.get(element), heap);
    }

    int next(int n, int element, int heap) {
        if (noQuotient(n) || !in(heap, 1, n)) {
            return NONE;
        }
        Quotient q = told.quotient(n);
        return q.unknown ? -3 : !q.has(element) ? NONE : q.step(element, heap);
    }

    int times(int n, int one, int other) {
        if (noQuotient(n)) {
            return NONE;
        }
        Quotient q = told.quotient(n);
        return q.unknown ? -3 : !q.has(one) || !q.has(other) ? NONE : q.times(one, other);
    }

    int sets(int n, int what) {
        if (noQuotient(n) || !in(what, 0, 3)) {
            return NONE;
        }
        Quotient q = told.quotient(n);
        if (q.unknown) {
            return -3;
        }
        int bits = 0;
        for (int e = 0; e < q.words.size(); e++) {
            bits += q.inSet(e, what) ? 1 << e : 0;
        }
        return bits;
    }

    int pairs(int n) {
        if (noQuotient(n)) {
            return NONE;
        }
        Quotient q = told.quotient(n);
        if (q.unknown) {
            return -3;
        }
        q.findPairs();
        return q.manyPairs ? -2 : q.pairs.size();
    }

    int proved(int n) {
        if (noQuotient(n)) {
            return NONE;
        }
        Quotient q = told.quotient(n);
        return q.unknown ? -3 : q.proved() ? 2 : q.steady() ? 1 : 0;
    }

    int stays(int n) {
        if (noQuotient(n)) {
            return NONE;
        }
        Quotient q = told.quotient(n);
        if (q.unknown) {
            return -3;
        }
        int greatest = n;
        for (int m = n; m <= 6; m++) {
            boolean all = true;
            for (int i = n; i <= m; i++) {
                all &= q.alike(told.quotient(i));
            }
            if (all) {
                greatest = m;
            }
        }
        return greatest;
    }

    int power(int n, int element, int what) {
        if (noQuotient(n) || !in(what, 0, 1)) {
            return NONE;
        }
        Quotient q = told.quotient(n);
        if (q.unknown) {
            return -3;
        }
        if (!q.has(element)) {
            return NONE;
        }
        List<Integer> came = new ArrayList<>(List.of(element));
        while (true) {
            int then = q.times(came.get(came.size() - 1), element);
            int first = came.indexOf(then);
            if (first >= 0) {
                return what == 0 ? first + 1 : came.size() - first;
            }
            came.add(then);
        }
    }

    int place(int n) {
        if (noQuotient(n)) {
            return NONE;
        }
        List<Integer> heaps = new ArrayList<>(tape);
        tape.clear();
        for (int heap : heaps) {
            if (!in(heap, 1, n)) {
                return -2;
            }
        }
        Quotient q = told.quotient(n);
        Collections.sort(heaps);
        return q.unknown ? -3 : q.walk(0, heaps);
    }

    int count(int what) {
        int bits = 0;
        for (int k : kept.keySet()) {
            bits += 1 << k;
        }
        int[] all = {told == null ? 0 : told.digits.length(), told == null ? 0 : told.lines - 1, x,
            acts.size(), bits, tape.size()};
        return in(what, 0, 5) ? all[what] : NONE;
    }

    /** For messages: the hand and the digits as they stand. */
    String describe() {
        return (told == null ? "no game" : "." + told.digits + " also " + told.also.stream().map(Arrays::toString).toList()
                + " never " + told.never.stream().map(Arrays::toString).toList()) + ", hand " + hand;
    }
}
