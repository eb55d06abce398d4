import java.util.List;
import java.util.function.Supplier;
import java.util.function.ToIntFunction;

/** What the tests share: facts and texts in short, answers that are due, and looks at all that an object holds. */
abstract class Checks {
    static final int NO_SUCH = -1, BAD_VALUE = -2, BAD_TEXT = -3, TOO_MANY = -4, NOT_POSSIBLE = -5, NONE = -6;
    static final int COUNT = 0, SIZE = 1, SUM = 2, GREATEST = 3, LEAST = 4, WITHIN = 5, MORE = 6;
    static final int LOWEST = Integer.MIN_VALUE, HIGHEST = Integer.MAX_VALUE;

    /** Twenty facts, and the ";" behind the last one is one character too many. */
    static final String EIGHTY_WITH_FAULT = "A<B;".repeat(20);
    /** Ten facts in just 80 characters. */
    static final String EIGHTY = "#A=10-18;" + "Bx>Cy+1;".repeat(8) + "Dz>Az-6";

    static final Scene EMPTY = new Scene("a new object", BagCounts::new);
    static final Scene SOME = new Scene("some facts", Checks::someFacts);
    static final Scene FULL = new Scene("ten facts", Checks::tenFacts);
    static final Scene WRITTEN = new Scene("a full pad", Checks::fullPad);
    static final Scene TORN = new Scene("a contradiction", Checks::contradictingFacts);
    static final List<Scene> SCENES = List.of(EMPTY, SOME, FULL, WRITTEN, TORN);

    private static final int LOOKS = 2;

    private static int passed;
    private static int failed;
    private static String sentence = "";

    /** A state to start from, and what is seen in it if nothing changes. */
    static final class Scene {
        final String name;
        private final Supplier<BagCounts> maker;
        private final String[] seen = new String[LOOKS];

        Scene(String name, Supplier<BagCounts> maker) {
            this.name = name;
            this.maker = maker;
        }

        BagCounts make() {
            return maker.get();
        }

        private String seen(int look) {
            if (seen[look] == null) {
                seen[look] = see(make(), look);
            }
            return seen[look];
        }
    }

    // ---- sentences and answers

    /** Runs the test of a sentence of the document; one that checks nothing fails. */
    static void sentence(String words, Runnable test) {
        sentence = "[" + words + "] ";
        int before = passed + failed;
        test.run();
        due("its test checks something", passed + failed > before ? 1 : 0, 1);
        sentence = "";
    }

    static void due(String what, long got, long want) {
        if (got == want) {
            passed++;
        } else {
            failed++;
            System.out.println(sentence + what + " answered " + got + ", due is " + want);
        }
    }

    static void finish(String test) {
        System.out.println(test + ": " + passed + " passed, " + failed + " failed");
        if (failed != 0) {
            System.exit(1);
        }
    }

    /** The call is refused with the code, and nothing is different behind it. */
    static void dueRefused(Scene scene, String call, int code, ToIntFunction<BagCounts> made) {
        String what = call + " with " + scene.name;
        for (int look = 0; look < LOOKS; look++) {
            BagCounts bags = scene.make();
            due(what, made.applyAsInt(bags), code);
            dueSame(what, see(bags, look), scene.seen(look));
        }
    }

    static void dueRefused(String call, int code, ToIntFunction<BagCounts> made) {
        for (Scene scene : SCENES) {
            dueRefused(scene, call, code, made);
        }
    }

    /** Two objects show the same wherever one looks. */
    static void dueAlike(String what, Supplier<BagCounts> one, Supplier<BagCounts> other) {
        for (int look = 0; look < LOOKS; look++) {
            dueSame(what, see(one.get(), look), see(other.get(), look));
        }
    }

    private static void dueSame(String what, String got, String want) {
        if (got.equals(want)) {
            passed++;
            return;
        }
        failed++;
        String[] gotLines = got.split("\n");
        String[] wantLines = want.split("\n");
        int i = 0;
        while (i < gotLines.length && i < wantLines.length && gotLines[i].equals(wantLines[i])) {
            i++;
        }
        System.out.println(sentence + "behind " + what + ": " + (i < gotLines.length ? gotLines[i] : "nothing more")
                + ", due is " + (i < wantLines.length ? wantLines[i] : "nothing more"));
    }

    // ---- looks: each takes an object of its own, as it changes it

    private static String see(BagCounts bags, int look) {
        StringBuilder seen = new StringBuilder();
        if (look == 0) {
            seeFacts(seen, bags);
            seeAnswers(seen, bags);
            show(seen, "fault", bags.fault());
            show(seen, "tell", bags.tell());
            seeFacts(seen, bags);
            for (int slot = 0; slot < 2; slot++) {
                show(seen, "restore " + slot, bags.restore(slot));
                seeFacts(seen, bags);
            }
        } else {
            seeFacts(seen, bags);
            for (int i = 0; i < 7; i++) {
                show(seen, "undo", bags.undo());
                seeFacts(seen, bags);
            }
        }
        return seen.toString();
    }

    private static void show(StringBuilder seen, String call, int answer) {
        seen.append(call).append(" answered ").append(answer).append('\n');
    }

    private static void seeFacts(StringBuilder seen, BagCounts bags) {
        for (int what = 0; what < 4; what++) {
            show(seen, "count " + what, bags.count(what));
        }
        int facts = Math.min(10, bags.count(0));
        for (int fact = 0; fact < facts; fact++) {
            for (int what = 0; what < 6; what++) {
                show(seen, "ofFact " + fact + " " + what, bags.ofFact(fact, what));
            }
        }
    }

    private static void seeAnswers(StringBuilder seen, BagCounts bags) {
        show(seen, "isPossible", bags.isPossible());
        show(seen, "solutions", bags.solutions(500));
        show(seen, "contradiction", bags.contradiction());
        show(seen, "needless", bags.needless());
        for (int bag = 0; bag < 4; bag++) {
            show(seen, "sizeOf " + bag, bags.sizeOf(bag, bag % 2));
            for (int kind = 0; kind < 3; kind++) {
                show(seen, "bound " + bag + " " + kind, bags.bound(bag, kind, kind % 2));
                show(seen, "least " + bag + " " + kind, bags.least(bag, kind));
            }
        }
        show(seen, "follows", bags.follows(WITHIN, 1, 0, 0, 0, 0));
        show(seen, "reason", bags.reason(0, 0, 0));
    }

    // ---- scenes

    private static BagCounts someFacts() {
        BagCounts bags = bagsOf(5, fact(SUM, 0, 1, 2), fact(COUNT, 1, 0, 1, 2));
        bags.save(0);
        tell(bags, fact(MORE, 3, 1, 2, 2, -2));
        write(bags, "A<B;#C=3");
        return bags;
    }

    private static BagCounts tenFacts() {
        BagCounts bags = bagsOf(3, fact(COUNT, 0, 0, 1, 5), fact(SIZE, 1, 2, 17));
        bags.save(1);
        bags.most(6);
        tell(bags, fact(SUM, 0, 1, 2));
        tell(bags, fact(GREATEST, 3, 1, 2));
        tell(bags, fact(LEAST, 2, 1, 3));
        tell(bags, fact(WITHIN, 1, 0));
        tell(bags, fact(MORE, 0, 1, 1, 2, -6));
        tell(bags, fact(COUNT, 3, 2, 0, 4));
        tell(bags, fact(SIZE, 2, 0, 16));
        tell(bags, fact(MORE, 0, 2, 2, 0, 1));
        bags.save(0);
        write(bags, EIGHTY_WITH_FAULT);
        return bags;
    }

    private static BagCounts fullPad() {
        BagCounts bags = new BagCounts();
        write(bags, EIGHTY);
        return bags;
    }

    private static BagCounts contradictingFacts() {
        BagCounts bags = bagsOf(2, fact(WITHIN, 0, 1), fact(COUNT, 1, 1, 0, 0), fact(COUNT, 0, 1, 1, 6));
        write(bags, "Ax=7");
        return bags;
    }

    // ---- facts and texts

    static BagCounts bagsOf(int most, int[]... facts) {
        BagCounts bags = new BagCounts();
        bags.most(most);
        for (int[] numbers : facts) {
            tell(bags, numbers);
        }
        return bags;
    }

    /** A form and its numbers; those that are left out are 0. */
    static int[] fact(int form, int... numbers) {
        int[] n = new int[6];
        n[0] = form;
        System.arraycopy(numbers, 0, n, 1, numbers.length);
        return n;
    }

    static int tell(BagCounts bags, int[] n) {
        return bags.fact(n[0], n[1], n[2], n[3], n[4], n[5]);
    }

    static int follows(BagCounts bags, int form, int... numbers) {
        int[] n = fact(form, numbers);
        return bags.follows(n[0], n[1], n[2], n[3], n[4], n[5]);
    }

    static void dueFact(BagCounts bags, int at, int[] want) {
        for (int what = 0; what < 6; what++) {
            due("ofFact(" + at + ", " + what + ")", bags.ofFact(at, what), want[what] + (what == 5 ? 100 : 0));
        }
    }

    static long packed(String characters) {
        long number = 0;
        for (int i = 0; i < characters.length(); i++) {
            number = number << 8 | characters.charAt(i);
        }
        return number;
    }

    static void write(BagCounts bags, String text) {
        for (int at = 0; at < text.length(); at += 8) {
            bags.put(packed(text.substring(at, Math.min(text.length(), at + 8))));
        }
    }

    static BagCounts written(String text) {
        BagCounts bags = new BagCounts();
        write(bags, text);
        return bags;
    }

    /** The fault of a text; if it has one, tell() refuses it and leaves all as it was. */
    static void dueFault(String text, int want) {
        BagCounts bags = written(text);
        due("fault of " + text, bags.fault(), want);
        due("length of " + text, bags.count(2), text.length());
        if (want != NONE) {
            due("tell of " + text, bags.tell(), BAD_TEXT);
            due("fault after tell of " + text, bags.fault(), want);
            due("length after tell of " + text, bags.count(2), text.length());
            due("changes after tell of " + text, bags.count(3), 0);
        }
    }

    static void dueLeast(BagCounts bags, int... want) {
        for (int i = 0; i < 12; i++) {
            due("least(" + i / 3 + ", " + i % 3 + ")", bags.least(i / 3, i % 3), want[i]);
        }
    }
}
