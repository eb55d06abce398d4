import java.util.Random;

/**
 * Random calls on BagCounts and on the model, from fixed seeds: each answer has to be the same. Each second run only tells
 * facts at first, most of which go with one another, and then asks all questions about them.
 */
public final class AgainstModel {
    private static final int CALLS = 60;
    /** So many calls an object is used for: what later ones answer is free. */
    private static final int ALL_CALLS = 512;

    private final Random random;
    private final BagCounts bags = new BagCounts();
    private final Model model = new Model();
    private final StringBuilder run = new StringBuilder();
    private final int mostAtMost;
    /** Calls of this run. */
    private int made;
    private static int compared;

    private AgainstModel(long seed, int mostAtMost) {
        random = new Random(seed);
        this.mostAtMost = mostAtMost;
    }

    public static void main(String[] arguments) {
        int runs = arguments.length > 0 ? Integer.parseInt(arguments[0]) : 200;
        int first = arguments.length > 1 ? Integer.parseInt(arguments[1]) : 0;
        int wrong = 0;
        for (int i = first; i < first + runs && wrong < 3; i++) {
            AgainstModel one = new AgainstModel(i, 1 + i / 2 % 6);
            if (i % 2 == 0 ? !one.agrees(i % 50 == 0 ? ALL_CALLS : CALLS) : !one.agreesOnAllQuestions()) {
                System.out.println("seed " + i + ":\n" + one.run);
                wrong++;
            }
        }
        System.out.println("AgainstModel: " + compared + " answers compared, " + wrong + " runs wrong");
        if (wrong != 0 || compared == 0) {
            System.exit(1);
        }
    }

    private boolean agrees(int atMost) {
        if (!isSame("most", new int[] {mostAtMost})) {
            return false;
        }
        String[] calls = {"fact", "fact", "fact", "fact", "drop", "most", "ofFact", "count", "isPossible", "bound", "sizeOf",
            "least", "solutions", "follows", "follows", "contradiction", "reason", "needless", "put", "text", "wipe", "fault",
            "tell", "undo", "save", "restore"};
        // "text" is some fourteen calls at most
        while (made <= atMost - 14) {
            if (!makeCall(calls[random.nextInt(calls.length)])) {
                return false;
            }
        }
        return true;
    }

    private boolean agreesOnAllQuestions() {
        boolean isSame = isSame("most", new int[] {mostAtMost});
        for (int i = 1 + random.nextInt(10); i > 0 && isSame; i--) {
            isSame = isSame("fact", someFact());
            if (bags.isPossible() == 0 && random.nextInt(20) != 0) {
                isSame = isSame && isSame("drop", new int[] {bags.count(0) - 1});
            }
        }
        String[] wholes = {"isPossible", "contradiction", "needless"};
        for (int i = 0; i < wholes.length && isSame; i++) {
            isSame = isSame(wholes[i], new int[0]);
        }
        for (int i = 0; i < 24 && isSame; i++) {
            int bag = i / 6;
            int kind = i / 2 % 3;
            isSame = isSame("bound", new int[] {bag, kind, i % 2}) && isSame("reason", new int[] {bag, kind, i % 2})
                    && isSame("least", new int[] {bag, kind}) && isSame("sizeOf", new int[] {bag, i % 2})
                    && isSame("follows", someFact()) && isSame("solutions", new int[] {1 + random.nextInt(500)});
        }
        return isSame;
    }

    private boolean makeCall(String call) {
        switch (call) {
            case "fact":
            case "follows":
                return isSame(call, someFact());
            case "ofFact":
                return isSame(call, new int[] {near(9), near(5)});
            case "bound":
            case "reason":
                return isSame(call, new int[] {near(3), near(2), near(1)});
            case "sizeOf":
                return isSame(call, new int[] {near(3), near(1)});
            case "least":
                return isSame(call, new int[] {near(3), near(2)});
            case "solutions":
                return isSame(call, new int[] {random.nextBoolean() ? random.nextInt(502) : 500});
            case "most":
                return isSame(call, new int[] {random.nextInt(8) == 0 ? near(6) : 1 + random.nextInt(mostAtMost)});
            case "drop":
                return isSame(call, new int[] {near(4)});
            case "count":
                return isSame(call, new int[] {near(3)});
            case "save":
            case "restore":
                return isSame(call, new int[] {near(1)});
            case "put":
                return isSamePut(somePiece());
            case "text":
                return putsText() && isSame("fault", new int[0]) && isSame("tell", new int[0]) && isSame("wipe", new int[0]);
            default:
                return isSame(call, new int[0]);
        }
    }

    /** A number from 0 to a limit, and now and then one just outside, or far. */
    private int near(int limit) {
        int draw = random.nextInt(40);
        return draw == 0 ? -1 : draw == 1 ? limit + 1 : draw == 2 ? random.nextInt() : random.nextInt(limit + 1);
    }

    private int[] someFact() {
        int form = random.nextInt(7);
        int[] n = {form, random.nextInt(4), random.nextInt(4), 0, 0, 0};
        if (form == 0) {
            int first = random.nextInt(Math.min(6, mostAtMost) + 1);
            n = new int[] {0, n[1], random.nextInt(3), first, first + random.nextInt(7 - first), 0};
        } else if (form == 1) {
            int first = random.nextInt(3 * mostAtMost + 1);
            n = new int[] {1, n[1], first, Math.min(18, first + random.nextInt(4)), 0, 0};
        } else if (form == 6) {
            int e = random.nextInt(2 * mostAtMost + 1) - mostAtMost;
            n = new int[] {6, n[1], random.nextInt(3), random.nextInt(4), random.nextInt(3), e};
        } else if (form < 5) {
            n[3] = random.nextInt(4);
        }
        if (random.nextInt(10) == 0) {
            n[random.nextInt(6)] = random.nextInt(30) - 8;
        }
        return n;
    }

    private long somePiece() {
        if (random.nextInt(6) == 0) {
            return random.nextInt(3) == 0 ? 0 : random.nextLong() >>> (8 * random.nextInt(8));
        }
        String signs = "AAABCDDxyz=====<>+-|&#;;0123456789";
        long piece = 0;
        for (int i = random.nextInt(8); i >= 0; i--) {
            piece = piece << 8 | signs.charAt(random.nextInt(signs.length()));
        }
        return piece;
    }

    private boolean putsText() {
        StringBuilder text = new StringBuilder();
        for (int i = random.nextInt(5); i >= 0; i--) {
            text.append(someFactText()).append(i == 0 ? "" : ";");
        }
        if (random.nextInt(3) == 0) {
            text.setCharAt(random.nextInt(text.length()), "ABCDxyz=<>+-|&#;0123456789E~w".charAt(random.nextInt(29)));
        }
        if (random.nextInt(6) == 0) {
            text.setLength(1 + random.nextInt(text.length()));
        }
        for (int at = 0; at < text.length(); at += 8) {
            if (!isSamePut(pieceOf(text, at))) {
                return false;
            }
        }
        return true;
    }

    private static long pieceOf(CharSequence text, int at) {
        long piece = 0;
        for (int i = at; i < Math.min(at + 8, text.length()); i++) {
            piece = piece << 8 | text.charAt(i);
        }
        return piece;
    }

    private String someFactText() {
        int[] n = someFact();
        String a = letter('A', n[1], 4);
        String b = letter('A', n[2], 4);
        String kind = letter('x', n[2], 3);
        switch (n[0]) {
            case 0:
                return a + kind + "=" + n[3] + (n[3] == n[4] ? "" : "-" + n[4]);
            case 1:
                return "#" + a + "=" + n[2] + (n[2] == n[3] ? "" : "-" + n[3]);
            case 5:
                return a + "<" + b;
            case 6:
                return a + kind + ">" + letter('A', n[3], 4) + letter('x', n[4], 3)
                        + (n[5] < 0 ? "" + n[5] : n[5] == 0 && random.nextBoolean() ? "" : "+" + n[5]);
            default:
                return b + "+|&".charAt(Math.floorMod(n[0] - 2, 3)) + letter('A', n[3], 4) + "=" + a;
        }
    }

    private static String letter(char first, int index, int letters) {
        return "" + (char) (first + Math.floorMod(index, letters));
    }

    private boolean isSamePut(long piece) {
        return isSame("put(" + piece + ")", bags.put(piece), model.put(piece));
    }

    private boolean isSame(String call, int[] n) {
        StringBuilder shown = new StringBuilder(call).append('(');
        for (int i = 0; i < n.length; i++) {
            shown.append(i == 0 ? "" : ", ").append(n[i]);
        }
        shown.append(')');
        return isSame(shown.toString(), ofBags(call, n), ofModel(call, n));
    }

    private boolean isSame(String call, int got, int want) {
        made++;
        compared++;
        run.append("  ").append(call).append(" answered ").append(got);
        if (got != want) {
            run.append(", due is ").append(want);
        }
        run.append('\n');
        return got == want;
    }

    private int ofBags(String call, int[] n) {
        return switch (call) {
            case "most" -> bags.most(n[0]);
            case "fact" -> bags.fact(n[0], n[1], n[2], n[3], n[4], n[5]);
            case "drop" -> bags.drop(n[0]);
            case "ofFact" -> bags.ofFact(n[0], n[1]);
            case "count" -> bags.count(n[0]);
            case "isPossible" -> bags.isPossible();
            case "bound" -> bags.bound(n[0], n[1], n[2]);
            case "sizeOf" -> bags.sizeOf(n[0], n[1]);
            case "least" -> bags.least(n[0], n[1]);
            case "solutions" -> bags.solutions(n[0]);
            case "follows" -> bags.follows(n[0], n[1], n[2], n[3], n[4], n[5]);
            case "contradiction" -> bags.contradiction();
            case "reason" -> bags.reason(n[0], n[1], n[2]);
            case "needless" -> bags.needless();
            case "wipe" -> bags.wipe();
            case "fault" -> bags.fault();
            case "tell" -> bags.tell();
            case "undo" -> bags.undo();
            case "save" -> bags.save(n[0]);
            case "restore" -> bags.restore(n[0]);
            default -> throw new IllegalArgumentException(call);
        };
    }

    private int ofModel(String call, int[] n) {
        return switch (call) {
            case "most" -> model.most(n[0]);
            case "fact" -> model.fact(n);
            case "drop" -> model.drop(n[0]);
            case "ofFact" -> model.ofFact(n[0], n[1]);
            case "count" -> model.count(n[0]);
            case "isPossible" -> model.isPossible();
            case "bound" -> model.bound(n[0], n[1], n[2]);
            case "sizeOf" -> model.sizeOf(n[0], n[1]);
            case "least" -> model.least(n[0], n[1]);
            case "solutions" -> model.solutions(n[0]);
            case "follows" -> model.follows(n);
            case "contradiction" -> model.contradiction();
            case "reason" -> model.reason(n[0], n[1], n[2]);
            case "needless" -> model.needless();
            case "wipe" -> model.wipe();
            case "fault" -> model.fault();
            case "tell" -> model.tell();
            case "undo" -> model.undo();
            case "save" -> model.save(n[0]);
            case "restore" -> model.restore(n[0]);
            default -> throw new IllegalArgumentException(call);
        };
    }
}
