import java.util.ArrayDeque;
import java.util.ArrayList;
import java.util.Deque;
import java.util.List;
import java.util.regex.Matcher;
import java.util.regex.Pattern;

/**
 * The document in another way, for comparison: it goes through all counts, keeps lists of states, and finds the
 * fault of a text by a pattern. It refuses a question (TooHard) that would take it too long.
 */
final class Model {
    static final class TooHard extends RuntimeException {
        private static final long serialVersionUID = 1L;
    }

    private record State(int most, List<int[]> facts) { }

    /** Takes a solution's twelve counts, and tells whether to go on. */
    private interface Visitor {
        boolean goOn(int[] counts);
    }

    private static final String NUMBER = "(?:1[0-8]|[0-9])";
    private static final String RANGE = NUMBER + "(?:-" + NUMBER + ")?";
    private static final String FACT = "(?:[A-D][+|&][A-D]=[A-D]|[A-D]<[A-D]|#[A-D]=" + RANGE + "|[A-D][x-z]=" + RANGE
            + "|[A-D][x-z]>[A-D][x-z](?:[+-][0-6])?)";
    private static final Pattern TEXT = Pattern.compile(FACT + "(?:;" + FACT + ")*");

    private final long patience;
    private long steps;
    private int most = 4;
    private List<int[]> facts = new ArrayList<>();
    private String pad = "";
    private final Deque<State> history = new ArrayDeque<>();
    private final State[] slots = new State[2];

    Model(long patience) {
        this.patience = patience;
    }

    // ---- changes

    int most(int newMost) {
        if (newMost < 1 || newMost > 6) {
            return -2;
        }
        int previous = most;
        record();
        most = newMost;
        return previous;
    }

    int fact(int... numbers) {
        if (!isFact(numbers)) {
            return -2;
        }
        if (facts.size() == 10) {
            return -4;
        }
        record();
        facts.add(numbers.clone());
        return facts.size() - 1;
    }

    int drop(int fact) {
        if (fact < 0 || fact >= facts.size()) {
            return -1;
        }
        record();
        facts.remove(fact);
        return facts.size();
    }

    int ofFact(int fact, int what) {
        if (fact < 0 || fact >= facts.size()) {
            return -1;
        }
        if (what < 0 || what > 5) {
            return -2;
        }
        return facts.get(fact)[what] + (what == 5 ? 100 : 0);
    }

    int count(int what) {
        return what == 0 ? facts.size() : what == 1 ? most : what == 2 ? pad.length() : what == 3 ? history.size() : -2;
    }

    // ---- what follows

    int isPossible() {
        return exists(facts, null, false) ? 1 : 0;
    }

    int bound(int bag, int kind, int what) {
        if (bag < 0 || bag > 3 || kind < 0 || kind > 2) {
            return -1;
        }
        return what < 0 || what > 1 ? -2 : extreme(facts, bag, kind, what);
    }

    int sizeOf(int bag, int what) {
        if (bag < 0 || bag > 3) {
            return -1;
        }
        return what < 0 || what > 1 ? -2 : extreme(facts, bag, 3, what);
    }

    int least(int bag, int kind) {
        if (bag < 0 || bag > 3 || kind < 0 || kind > 2) {
            return -1;
        }
        int[] best = new int[1];
        List<int[]> least = new ArrayList<>();
        visit(facts, counts -> {
            if (least.isEmpty() || isLess(counts, least.get(0))) {
                least.clear();
                least.add(counts.clone());
            }
            return true;
        });
        best[0] = least.isEmpty() ? -6 : least.get(0)[3 * bag + kind];
        return best[0];
    }

    int solutions(int limit) {
        if (limit < 1 || limit > 500) {
            return -2;
        }
        int[] found = new int[1];
        visit(facts, counts -> ++found[0] < limit);
        return found[0];
    }

    int follows(int... numbers) {
        if (!isFact(numbers)) {
            return -2;
        }
        boolean canHold = exists(facts, numbers, false);
        boolean canFail = exists(facts, numbers, true);
        return canHold ? (canFail ? 2 : 1) : canFail ? 0 : -6;
    }

    int contradiction() {
        if (exists(facts, null, false)) {
            return -6;
        }
        int set = (1 << facts.size()) - 1;
        for (int i = 0; i < facts.size(); i++) {
            if (!exists(subset(set & ~(1 << i)), null, false)) {
                set &= ~(1 << i);
            }
        }
        return set;
    }

    int reason(int bag, int kind, int what) {
        int bound = bound(bag, kind, what);
        if (bound < 0) {
            return bound;
        }
        int set = (1 << facts.size()) - 1;
        for (int i = 0; i < facts.size(); i++) {
            if (extreme(subset(set & ~(1 << i)), bag, kind, what) == bound) {
                set &= ~(1 << i);
            }
        }
        return set;
    }

    int needless() {
        if (!exists(facts, null, false)) {
            return -6;
        }
        int set = 0;
        for (int i = 0; i < facts.size(); i++) {
            if (!exists(subset(~(1 << i)), facts.get(i), true)) {
                set |= 1 << i;
            }
        }
        return set;
    }

    // ---- texts

    int put(long characters) {
        StringBuilder added = new StringBuilder();
        boolean ended = false;
        for (int i = 0; i < 8; i++) {
            int code = (int) (characters >>> (8 * i)) & 255;
            if (code == 0) {
                ended = true;
            } else if (ended || code < 33 || code > 126) {
                return -2;
            } else {
                added.insert(0, (char) code);
            }
        }
        if (added.length() == 0) {
            return -2;
        }
        if (pad.length() + added.length() > 80) {
            return -4;
        }
        pad += added;
        return pad.length();
    }

    int wipe() {
        int length = pad.length();
        pad = "";
        return length;
    }

    int fault() {
        if (TEXT.matcher(pad).matches()) {
            return -6;
        }
        for (int i = 1; i <= pad.length(); i++) {
            Matcher start = TEXT.matcher(pad.substring(0, i));
            if (!start.matches() && !start.hitEnd()) {
                return i - 1;
            }
        }
        return pad.length();
    }

    int tell() {
        if (fault() != -6) {
            return -3;
        }
        record();
        int told = 0;
        for (String text : pad.split(";")) {
            int[] numbers = read(text);
            if (!isFact(numbers) || facts.size() == 10) {
                break;
            }
            facts.add(numbers);
            told++;
        }
        pad = "";
        return told;
    }

    // ---- undo, saving

    int undo() {
        if (history.isEmpty()) {
            return -5;
        }
        set(history.removeLast());
        return history.size();
    }

    int save(int slot) {
        if (slot < 0 || slot > 1) {
            return -2;
        }
        slots[slot] = new State(most, new ArrayList<>(facts));
        return facts.size();
    }

    int restore(int slot) {
        if (slot < 0 || slot > 1) {
            return -2;
        }
        if (slots[slot] == null) {
            return -5;
        }
        record();
        set(slots[slot]);
        return facts.size();
    }

    private void record() {
        history.addLast(new State(most, new ArrayList<>(facts)));
        if (history.size() > 6) {
            history.removeFirst();
        }
    }

    private void set(State state) {
        most = state.most();
        facts = new ArrayList<>(state.facts());
    }

    private static int[] read(String text) {
        if (text.startsWith("#")) {
            int[] range = range(text.substring(3));
            return new int[] {1, text.charAt(1) - 'A', range[0], range[1], 0, 0};
        }
        int first = text.charAt(0) - 'A';
        if (text.charAt(1) == '<') {
            return new int[] {5, first, text.charAt(2) - 'A', 0, 0, 0};
        }
        if ("xyz".indexOf(text.charAt(1)) >= 0) {
            int kind = text.charAt(1) - 'x';
            if (text.charAt(2) == '=') {
                int[] range = range(text.substring(3));
                return new int[] {0, first, kind, range[0], range[1], 0};
            }
            int e = text.length() == 5 ? 0 : Integer.parseInt(text.substring(5));
            return new int[] {6, first, kind, text.charAt(3) - 'A', text.charAt(4) - 'x', e};
        }
        return new int[] {2 + "+|&".indexOf(text.charAt(1)), text.charAt(4) - 'A', first, text.charAt(2) - 'A', 0, 0};
    }

    private static int[] range(String text) {
        String[] ends = text.split("-");
        int first = Integer.parseInt(ends[0]);
        return new int[] {first, ends.length == 1 ? first : Integer.parseInt(ends[1])};
    }

    private static boolean isFact(int[] n) {
        int[][] limits = switch (n[0]) {
            case 0 -> new int[][] {{0, 3}, {0, 2}, {0, 6}, {n[3], 6}, {0, 0}};
            case 1 -> new int[][] {{0, 3}, {0, 18}, {n[2], 18}, {0, 0}, {0, 0}};
            case 2, 3, 4 -> new int[][] {{0, 3}, {0, 3}, {0, 3}, {0, 0}, {0, 0}};
            case 5 -> new int[][] {{0, 3}, {0, 3}, {0, 0}, {0, 0}, {0, 0}};
            case 6 -> new int[][] {{0, 3}, {0, 2}, {0, 3}, {0, 2}, {-6, 6}};
            default -> null;
        };
        if (limits == null) {
            return false;
        }
        for (int i = 0; i < 5; i++) {
            if (n[i + 1] < limits[i][0] || n[i + 1] > limits[i][1]) {
                return false;
            }
        }
        return true;
    }

    // ---- going through all counts: a bag's counts stand at 3 * bag + kind

    private static boolean holds(int[] n, int[] counts) {
        if (n[0] == 0) {
            int count = counts[3 * n[1] + n[2]];
            return count >= n[3] && count <= n[4];
        }
        if (n[0] == 1) {
            int size = size(counts, n[1]);
            return size >= n[2] && size <= n[3];
        }
        if (n[0] == 6) {
            return counts[3 * n[1] + n[2]] >= counts[3 * n[3] + n[4]] + n[5];
        }
        return holdsOfKind(n, counts, 0) && holdsOfKind(n, counts, 1) && holdsOfKind(n, counts, 2);
    }

    private static boolean holdsOfKind(int[] n, int[] counts, int kind) {
        int a = counts[3 * n[1] + kind];
        int b = counts[3 * n[2] + kind];
        int c = counts[3 * n[3] + kind];
        return switch (n[0]) {
            case 2 -> a == b + c;
            case 3 -> a == Math.max(b, c);
            case 4 -> a == Math.min(b, c);
            default -> a <= b;
        };
    }

    private static int size(int[] counts, int bag) {
        return counts[3 * bag] + counts[3 * bag + 1] + counts[3 * bag + 2];
    }

    private static boolean isLess(int[] one, int[] other) {
        for (int i = 0; i < 12; i++) {
            if (one[i] != other[i]) {
                return one[i] < other[i];
            }
        }
        return false;
    }

    private List<int[]> subset(int set) {
        List<int[]> some = new ArrayList<>();
        for (int i = 0; i < facts.size(); i++) {
            if ((set >> i & 1) != 0) {
                some.add(facts.get(i));
            }
        }
        return some;
    }

    private boolean exists(List<int[]> given, int[] asked, boolean fails) {
        boolean[] found = new boolean[1];
        visit(given, counts -> {
            found[0] = asked == null || holds(asked, counts) != fails;
            return !found[0];
        });
        return found[0];
    }

    private int extreme(List<int[]> given, int bag, int kind, int what) {
        int[] best = {-6};
        visit(given, counts -> {
            int value = kind == 3 ? size(counts, bag) : counts[3 * bag + kind];
            if (best[0] == -6 || (what == 0 ? value < best[0] : value > best[0])) {
                best[0] = value;
            }
            return true;
        });
        return best[0];
    }

    /** Tells a visitor all solutions: the fitting four counts of each kind first, then all that go together. */
    private void visit(List<int[]> given, Visitor visitor) {
        steps = 0;
        List<List<int[]>> columns = new ArrayList<>();
        for (int kind = 0; kind < 3; kind++) {
            columns.add(columnsOf(given, kind));
        }
        int[] counts = new int[12];
        for (int[] x : columns.get(0)) {
            setColumn(counts, 0, x);
            for (int[] y : columns.get(1)) {
                setColumn(counts, 1, y);
                if (!canStillHold(given, counts)) {
                    continue;
                }
                for (int[] z : columns.get(2)) {
                    if (++steps > patience) {
                        throw new TooHard();
                    }
                    setColumn(counts, 2, z);
                    if (given.stream().allMatch(n -> holds(n, counts)) && !visitor.goOn(counts)) {
                        return;
                    }
                }
            }
        }
    }

    private List<int[]> columnsOf(List<int[]> given, int kind) {
        List<int[]> fitting = new ArrayList<>();
        int values = most + 1;
        int[] counts = new int[12];
        for (int i = 0; i < values * values * values * values; i++) {
            int[] column = {i % values, i / values % values, i / values / values % values, i / values / values / values};
            setColumn(counts, kind, column);
            if (given.stream().allMatch(n -> fitsColumn(n, counts, kind))) {
                fitting.add(column);
            }
        }
        return fitting;
    }

    private static boolean fitsColumn(int[] n, int[] counts, int kind) {
        return switch (n[0]) {
            case 0 -> n[2] != kind || holds(n, counts);
            case 1 -> counts[3 * n[1] + kind] <= n[3];
            case 6 -> n[2] != kind || n[4] != kind || holds(n, counts);
            default -> holdsOfKind(n, counts, kind);
        };
    }

    /** Whether the counts of the kinds x and y leave a way for the sizes and for what compares x with y. */
    private boolean canStillHold(List<int[]> given, int[] counts) {
        for (int[] n : given) {
            if (n[0] == 6 && n[2] < 2 && n[4] < 2 && !holds(n, counts)) {
                return false;
            }
            if (n[0] == 1) {
                int soFar = counts[3 * n[1]] + counts[3 * n[1] + 1];
                if (soFar > n[3] || soFar + most < n[2]) {
                    return false;
                }
            }
        }
        return true;
    }

    private static void setColumn(int[] counts, int kind, int[] column) {
        for (int bag = 0; bag < 4; bag++) {
            counts[3 * bag + kind] = column[bag];
        }
    }
}
