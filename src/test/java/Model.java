import java.util.ArrayDeque;
import java.util.ArrayList;
import java.util.Deque;
import java.util.List;
import java.util.regex.Matcher;
import java.util.regex.Pattern;

/**
 * The document in another way, for comparison: it answers each question by how many solutions there are, keeps lists
 * of states, and finds the fault of a text by a pattern.
 */
final class Model {
    private record State(int most, List<int[]> facts) { }

    private static final String NUMBER = "(?:1[0-8]|[0-9])";
    private static final String RANGE = NUMBER + "(?:-" + NUMBER + ")?";
    private static final String FACT = "(?:[A-D][+|&][A-D]=[A-D]|[A-D]<[A-D]|#[A-D]=" + RANGE + "|[A-D][x-z]=" + RANGE
            + "|[A-D][x-z]>[A-D][x-z](?:[+-][0-6])?)";
    private static final Pattern TEXT = Pattern.compile(FACT + "(?:;" + FACT + ")*");

    private int most = 4;
    private List<int[]> facts = new ArrayList<>();
    private String pad = "";
    private final Deque<State> history = new ArrayDeque<>();
    private final State[] slots = new State[2];

    // ---- changes

    int most(int newMost) {
        if (newMost < 1 || newMost > 6) {
            return -2;
        }
        int previous = most;
        record();
        most = newMost;
        return previous;
    }

    int fact(int... numbers) {
        if (!isFact(numbers)) {
            return -2;
        }
        if (facts.size() == 10) {
            return -4;
        }
        record();
        facts.add(numbers.clone());
        return facts.size() - 1;
    }

    int drop(int fact) {
        if (fact < 0 || fact >= facts.size()) {
            return -1;
        }
        record();
        facts.remove(fact);
        return facts.size();
    }

    int ofFact(int fact, int what) {
        if (fact < 0 || fact >= facts.size()) {
            return -1;
        }
        if (what < 0 || what > 5) {
            return -2;
        }
        return facts.get(fact)[what] + (what == 5 ? 100 : 0);
    }

    int count(int what) {
        return what == 0 ? facts.size() : what == 1 ? most : what == 2 ? pad.length() : what == 3 ? history.size() : -2;
    }

    // ---- what follows

    int isPossible() {
        return canHold(facts) ? 1 : 0;
    }

    int bound(int bag, int kind, int what) {
        if (bag < 0 || bag > 3 || kind < 0 || kind > 2) {
            return -1;
        }
        return what < 0 || what > 1 ? -2 : boundOf(facts, bag, kind, what);
    }

    int sizeOf(int bag, int what) {
        if (bag < 0 || bag > 3) {
            return -1;
        }
        if (what < 0 || what > 1) {
            return -2;
        }
        for (int i = 0; i <= 3 * most; i++) {
            int size = what == 0 ? i : 3 * most - i;
            if (canHold(with(facts, new int[] {1, bag, size, size, 0, 0}))) {
                return size;
            }
        }
        return -6;
    }

    int least(int bag, int kind) {
        if (bag < 0 || bag > 3 || kind < 0 || kind > 2) {
            return -1;
        }
        List<int[]> known = facts;
        int count = -6;
        for (int i = 0; i <= 3 * bag + kind; i++) {
            count = boundOf(known, i / 3, i % 3, 0);
            known = with(known, counted(i / 3, i % 3, count));
        }
        return count;
    }

    int solutions(int limit) {
        if (limit < 1 || limit > 500) {
            return -2;
        }
        return (int) Math.min(limit, Counting.solutions(most, facts, limit));
    }

    int follows(int... numbers) {
        if (!isFact(numbers)) {
            return -2;
        }
        long all = solutionsOf(facts);
        long holding = solutionsOf(with(facts, numbers));
        return all == 0 ? -6 : holding == all ? 1 : holding == 0 ? 0 : 2;
    }

    int contradiction() {
        if (canHold(facts)) {
            return -6;
        }
        int set = (1 << facts.size()) - 1;
        for (int i = 0; i < facts.size(); i++) {
            if (!canHold(subset(set & ~(1 << i)))) {
                set &= ~(1 << i);
            }
        }
        return set;
    }

    int reason(int bag, int kind, int what) {
        int bound = bound(bag, kind, what);
        if (bound < 0) {
            return bound;
        }
        int set = (1 << facts.size()) - 1;
        for (int i = 0; i < facts.size(); i++) {
            if (boundOf(subset(set & ~(1 << i)), bag, kind, what) == bound) {
                set &= ~(1 << i);
            }
        }
        return set;
    }

    int needless() {
        long all = solutionsOf(facts);
        if (all == 0) {
            return -6;
        }
        int set = 0;
        for (int i = 0; i < facts.size(); i++) {
            if (solutionsOf(subset(~(1 << i))) == all) {
                set |= 1 << i;
            }
        }
        return set;
    }

    private boolean canHold(List<int[]> given) {
        return Counting.solutions(most, given, 1) != 0;
    }

    private long solutionsOf(List<int[]> given) {
        return Counting.solutions(most, given, Long.MAX_VALUE);
    }

    private int boundOf(List<int[]> given, int bag, int kind, int what) {
        for (int i = 0; i <= most; i++) {
            int count = what == 0 ? i : most - i;
            if (canHold(with(given, counted(bag, kind, count)))) {
                return count;
            }
        }
        return -6;
    }

    private static int[] counted(int bag, int kind, int count) {
        return new int[] {0, bag, kind, count, count, 0};
    }

    private static List<int[]> with(List<int[]> given, int[] fact) {
        List<int[]> more = new ArrayList<>(given);
        more.add(fact);
        return more;
    }

    private List<int[]> subset(int set) {
        List<int[]> some = new ArrayList<>();
        for (int i = 0; i < facts.size(); i++) {
            if ((set >> i & 1) != 0) {
                some.add(facts.get(i));
            }
        }
        return some;
    }

    // ---- texts

    int put(long characters) {
        StringBuilder added = new StringBuilder();
        boolean ended = false;
        for (int i = 0; i < 8; i++) {
            int code = (int) (characters >>> (8 * i)) & 255;
            if (code == 0) {
                ended = true;
            } else if (ended || code < 33 || code > 126) {
                return -2;
            } else {
                added.insert(0, (char) code);
            }
        }
        if (added.length() == 0) {
            return -2;
        }
        if (pad.length() + added.length() > 80) {
            return -4;
        }
        pad += added;
        return pad.length();
    }

    int wipe() {
        int length = pad.length();
        pad = "";
        return length;
    }

    int fault() {
        if (TEXT.matcher(pad).matches()) {
            return -6;
        }
        for (int i = 1; i <= pad.length(); i++) {
            Matcher start = TEXT.matcher(pad.substring(0, i));
            if (!start.matches() && !start.hitEnd()) {
                return i - 1;
            }
        }
        return pad.length();
    }

    int tell() {
        if (fault() != -6) {
            return -3;
        }
        record();
        int told = 0;
        for (String text : pad.split(";")) {
            int[] numbers = read(text);
            if (!isFact(numbers) || facts.size() == 10) {
                break;
            }
            facts.add(numbers);
            told++;
        }
        pad = "";
        return told;
    }

    // ---- undo, saving

    int undo() {
        if (history.isEmpty()) {
            return -5;
        }
        set(history.removeLast());
        return history.size();
    }

    int save(int slot) {
        if (slot < 0 || slot > 1) {
            return -2;
        }
        slots[slot] = new State(most, new ArrayList<>(facts));
        return facts.size();
    }

    int restore(int slot) {
        if (slot < 0 || slot > 1) {
            return -2;
        }
        if (slots[slot] == null) {
            return -5;
        }
        record();
        set(slots[slot]);
        return facts.size();
    }

    private void record() {
        history.addLast(new State(most, new ArrayList<>(facts)));
        if (history.size() > 6) {
            history.removeFirst();
        }
    }

    private void set(State state) {
        most = state.most();
        facts = new ArrayList<>(state.facts());
    }

    private static int[] read(String text) {
        if (text.startsWith("#")) {
            int[] range = range(text.substring(3));
            return new int[] {1, text.charAt(1) - 'A', range[0], range[1], 0, 0};
        }
        int first = text.charAt(0) - 'A';
        if (text.charAt(1) == '<') {
            return new int[] {5, first, text.charAt(2) - 'A', 0, 0, 0};
        }
        if ("xyz".indexOf(text.charAt(1)) >= 0) {
            int kind = text.charAt(1) - 'x';
            if (text.charAt(2) == '=') {
                int[] range = range(text.substring(3));
                return new int[] {0, first, kind, range[0], range[1], 0};
            }
            int e = text.length() == 5 ? 0 : Integer.parseInt(text.substring(5));
            return new int[] {6, first, kind, text.charAt(3) - 'A', text.charAt(4) - 'x', e};
        }
        return new int[] {2 + "+|&".indexOf(text.charAt(1)), text.charAt(4) - 'A', first, text.charAt(2) - 'A', 0, 0};
    }

    private static int[] range(String text) {
        String[] ends = text.split("-");
        int first = Integer.parseInt(ends[0]);
        return new int[] {first, ends.length == 1 ? first : Integer.parseInt(ends[1])};
    }

    private static boolean isFact(int[] n) {
        int[][] limits = switch (n[0]) {
            case 0 -> new int[][] {{0, 3}, {0, 2}, {0, 6}, {n[3], 6}, {0, 0}};
            case 1 -> new int[][] {{0, 3}, {0, 18}, {n[2], 18}, {0, 0}, {0, 0}};
            case 2, 3, 4 -> new int[][] {{0, 3}, {0, 3}, {0, 3}, {0, 0}, {0, 0}};
            case 5 -> new int[][] {{0, 3}, {0, 3}, {0, 0}, {0, 0}, {0, 0}};
            case 6 -> new int[][] {{0, 3}, {0, 2}, {0, 3}, {0, 2}, {-6, 6}};
            default -> null;
        };
        if (limits == null) {
            return false;
        }
        for (int i = 0; i < 5; i++) {
            if (n[i + 1] < limits[i][0] || n[i + 1] > limits[i][1]) {
                return false;
            }
        }
        return true;
    }
}
