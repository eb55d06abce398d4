import java.util.ArrayList;
import java.util.LinkedHashMap;
import java.util.List;
import java.util.Map;

/**
 * How many solutions facts have, exactly: it goes through all fitting counts of the kinds x and y, and for each two of
 * them takes the number of fitting counts of z from sums over boxes. A fact is its form and its numbers a to e.
 */
final class Counting {
    private static final int BAGS = 4, KINDS = 3;
    /** A box's cell for each bag is one more than its count: the cells 0 are in front of all counts. */
    private static final int CELLS = 8;
    /** Behind a column's four counts: how many columns are like it. */
    private static final int ALIKE = BAGS;
    private static final int[] STRIDES = {CELLS * CELLS * CELLS, CELLS * CELLS, CELLS, 1};

    private final int most;
    private final List<int[]> facts;
    /** How many fitting counts of z are in the box from the first cell to a cell. */
    private final int[] boxes = new int[CELLS * CELLS * CELLS * CELLS];
    private final int[] corners = new int[1 << BAGS];
    private final int[] low = new int[BAGS];
    private final int[] high = new int[BAGS];

    private Counting(int most, List<int[]> facts) {
        this.most = most;
        this.facts = facts;
    }

    /** The number of solutions, or one that is at least enough. */
    static long solutions(int most, List<int[]> facts, long enough) {
        return new Counting(most, facts).solutions(enough);
    }

    private long solutions(long enough) {
        List<int[]> ofX = columns(0);
        List<int[]> ofY = columns(1);
        fillBoxes(columns(2));
        long found = 0;
        for (int[] x : ofX) {
            for (int[] y : ofY) {
                found += leavesRoom(x, y) ? (long) x[ALIKE] * y[ALIKE] * inBox() : 0;
                if (found >= enough) {
                    return found;
                }
            }
        }
        return found;
    }

    /**
     * What the four counts of one kind can be, so far as facts speak of this kind alone. Those that are the same for all
     * other facts are told once, with their number; counts of which no other fact speaks are told as 0.
     */
    private List<int[]> columns(int kind) {
        Map<Integer, int[]> found = new LinkedHashMap<>();
        int values = most + 1;
        for (int i = 0; i < values * values * values * values; i++) {
            int[] column = {i % values, i / values % values, i / values / values % values, i / values / values / values};
            if (fits(kind, column)) {
                int[] told = new int[BAGS + 1];
                int key = 0;
                for (int bag = 0; bag < BAGS; bag++) {
                    told[bag] = isJoined(bag, kind) ? column[bag] : 0;
                    key = key * values + told[bag];
                }
                found.computeIfAbsent(key, unknown -> told)[ALIKE]++;
            }
        }
        return new ArrayList<>(found.values());
    }

    private boolean isJoined(int bag, int kind) {
        for (int[] n : facts) {
            if (n[0] == 1 && n[1] == bag || joinsKinds(n) && (n[1] == bag && n[2] == kind || n[3] == bag && n[4] == kind)) {
                return true;
            }
        }
        return false;
    }

    private static boolean joinsKinds(int[] n) {
        return n[0] == 6 && n[2] != n[4];
    }

    private boolean fits(int kind, int[] column) {
        for (int[] n : facts) {
            if (!fits(n, kind, column)) {
                return false;
            }
        }
        return true;
    }

    private static boolean fits(int[] n, int kind, int[] column) {
        int a = column[n[1]];
        return switch (n[0]) {
            case 0 -> n[2] != kind || a >= n[3] && a <= n[4];
            case 2 -> a == column[n[2]] + column[n[3]];
            case 3 -> a == Math.max(column[n[2]], column[n[3]]);
            case 4 -> a == Math.min(column[n[2]], column[n[3]]);
            case 5 -> a <= column[n[2]];
            case 6 -> n[2] != kind || n[4] != kind || a >= column[n[3]] + n[5];
            default -> true;
        };
    }

    private void fillBoxes(List<int[]> columns) {
        for (int[] column : columns) {
            int at = 0;
            for (int bag = 0; bag < BAGS; bag++) {
                at += (column[bag] + 1) * STRIDES[bag];
            }
            boxes[at] += column[ALIKE];
        }
        for (int stride : STRIDES) {
            for (int i = 0; i < boxes.length; i++) {
                boxes[i] += i / stride % CELLS == 0 ? 0 : boxes[i - stride];
            }
        }
    }

    /** Finds from where to where the counts of z can go with those of x and y, and whether they can be there. */
    private boolean leavesRoom(int[] x, int[] y) {
        for (int bag = 0; bag < BAGS; bag++) {
            low[bag] = 0;
            high[bag] = most;
        }
        for (int[] n : facts) {
            if (n[0] == 1) {
                int known = x[n[1]] + y[n[1]];
                raise(n[1], n[2] - known);
                lower(n[1], n[3] - known);
            } else if (joinsKinds(n)) {
                int[] one = n[2] == 0 ? x : y;
                int[] other = n[4] == 0 ? x : y;
                if (n[2] == KINDS - 1) {
                    raise(n[1], other[n[3]] + n[5]);
                } else if (n[4] == KINDS - 1) {
                    lower(n[3], one[n[1]] - n[5]);
                } else if (one[n[1]] < other[n[3]] + n[5]) {
                    return false;
                }
            }
        }
        return low[0] <= high[0] && low[1] <= high[1] && low[2] <= high[2] && low[3] <= high[3];
    }

    private void raise(int bag, int least) {
        low[bag] = Math.max(low[bag], least);
    }

    private void lower(int bag, int greatest) {
        high[bag] = Math.min(high[bag], greatest);
    }

    /** Adds and takes away the boxes up to the sixteen corners: each bag has the corners twice, with high and low. */
    private int inBox() {
        corners[0] = 0;
        for (int bag = 0; bag < BAGS; bag++) {
            corners[0] += (high[bag] + 1) * STRIDES[bag];
        }
        int found = boxes[corners[0]];
        for (int bag = 0, known = 1; bag < BAGS; bag++, known *= 2) {
            int step = (high[bag] + 1 - low[bag]) * STRIDES[bag];
            for (int i = 0; i < known; i++) {
                corners[known + i] = corners[i] - step;
                found += Integer.bitCount(i) % 2 == 0 ? -boxes[corners[known + i]] : boxes[corners[known + i]];
            }
        }
        return found;
    }
}
