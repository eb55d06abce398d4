import java.util.List;

/** Each sentence of the document's Terms that names a boundary case: CONVENTIONS, Bags, Facts. */
public final class TermsTest extends Checks {
    private static final int[] OUTSIDE = {-1, LOWEST, HIGHEST};
    /** Three bags in some orders: each bag stands in each place. */
    private static final int[][] TRIPLES = {{0, 1, 2}, {1, 2, 3}, {2, 3, 0}, {3, 0, 1}, {3, 2, 1}};
    private static final String[] FORMS = {"COUNT", "SIZE", "SUM", "GREATEST", "LEAST", "WITHIN", "MORE"};

    public static void main(String[] arguments) {
        conventions();
        bags();
        facts();
        forms();
        solutions();
        finish("TermsTest");
    }

    private static void conventions() {
        sentence("CONVENTIONS: one of the error codes NO_SUCH (-1) to NOT_POSSIBLE (-5)", TermsTest::errorCodes);
        sentence("CONVENTIONS: the first one that applies is returned", TermsTest::theFirstErrorThatApplies);
        sentence("CONVENTIONS: A call that returns an error changes nothing", TermsTest::anErrorChangesNothing);
        sentence("CONVENTIONS: NONE (-6) is returned only if no error applies", TermsTest::noneOnlyIfNoErrorApplies);
        sentence("CONVENTIONS: Everything is numbered from 0", TermsTest::everythingIsNumberedFromZero);
        sentence("CONVENTIONS: Sets of facts are bit masks", TermsTest::setsAreBitMasks);
    }

    private static void bags() {
        sentence("Bags: There are 4 bags, 0 to 3", TermsTest::fourBags);
        sentence("Bags: and 3 kinds of things, 0 to 2", TermsTest::threeKinds);
        sentence("Bags: Of each kind there are 0 to MOST things in a bag", TermsTest::zeroToMostThings);
        sentence("Bags: a setting, 1 to 6; 4 at first", TermsTest::mostIsFourAtFirst);
        sentence("Bags: The size of a bag is the sum of its three counts", TermsTest::sizeIsTheSumOfThreeCounts);
    }

    private static void facts() {
        sentence("Facts: There are up to 10 facts", TermsTest::upToTenFacts);
        sentence("Facts: numbered in the order in which they came", TermsTest::numberedInTheOrderInWhichTheyCame);
        sentence("Facts: when one is dropped, those behind it move up", TermsTest::thoseBehindADroppedOneMoveUp);
        sentence("Facts: those that its form does not tell have to be 0", TermsTest::untoldNumbersHaveToBeZero);
        sentence("Facts: c is 0 to 6, d is c to 6 (COUNT)", TermsTest::rangeOfCount);
        sentence("Facts: b is 0 to 18, c is b to 18 (SIZE)", TermsTest::rangeOfSize);
        sentence("Facts: e is -6 to 6 (MORE)", TermsTest::rangeOfMore);
        sentence("Facts: Bags are 0 to 3", TermsTest::bagsOfFacts);
        sentence("Facts: kinds 0 to 2", TermsTest::kindsOfFacts);
        sentence("Facts: A fact has a form, COUNT to MORE", TermsTest::formsOfFacts);
        sentence("Facts: the same bag may stand in several places", TermsTest::theSameBagInSeveralPlaces);
    }

    private static void forms() {
        sentence("Facts: COUNT: the bag a has c to d things of the kind b", TermsTest::countHasCToD);
        sentence("Facts: SIZE: the size of the bag a is b to c", TermsTest::sizeIsBToC);
        sentence("Facts: SUM: as many things as the bags b and c together", TermsTest::sumOfEachKind);
        sentence("Facts: GREATEST: as many things as that which has more", TermsTest::greatestOfEachKind);
        sentence("Facts: LEAST: as many things as that which has fewer", TermsTest::leastOfEachKind);
        sentence("Facts: WITHIN: of each kind, at most as many things", TermsTest::withinOfEachKind);
        sentence("Facts: MORE: at least the count of the kind d in the bag c plus e", TermsTest::moreIsAtLeastPlusE);
    }

    private static void solutions() {
        sentence("A solution is what the twelve counts can be (0 to MOST each)", TermsTest::aSolutionIsZeroToMostEach);
        sentence("the counts of the bag 0, then of the bag 1, and so on", TermsTest::theFirstBagIsComparedFirst);
        sentence("the counts of the bag 0 (kinds 0 to 2)", TermsTest::theFirstKindIsComparedFirst);
    }

    // ---- CONVENTIONS

    private static void errorCodes() {
        due("NO_SUCH", BagCounts.NO_SUCH, -1);
        due("BAD_VALUE", BagCounts.BAD_VALUE, -2);
        due("BAD_TEXT", BagCounts.BAD_TEXT, -3);
        due("TOO_MANY", BagCounts.TOO_MANY, -4);
        due("NOT_POSSIBLE", BagCounts.NOT_POSSIBLE, -5);
        due("NONE", BagCounts.NONE, -6);
    }

    private static void theFirstErrorThatApplies() {
        dueRefused(FULL, "a wrong fact, and no room", BAD_VALUE, x -> x.fact(WITHIN, 4, 0, 0, 0, 0));
        dueRefused(FULL, "a fact of a wrong form, and no room", BAD_VALUE, x -> x.fact(7, 0, 0, 0, 0, 0));
        dueRefused(FULL, "a right fact, and no room", TOO_MANY, x -> x.fact(WITHIN, 3, 0, 0, 0, 0));
        dueRefused("ofFact, both wrong", NO_SUCH, x -> x.ofFact(10, 6));
        dueRefused("ofFact, both below 0", NO_SUCH, x -> x.ofFact(-1, -1));
        dueRefused(FULL, "ofFact, what wrong", BAD_VALUE, x -> x.ofFact(9, 6));
        dueRefused("bound, bag and what wrong", NO_SUCH, x -> x.bound(4, 0, 2));
        dueRefused("bound, kind and what wrong", NO_SUCH, x -> x.bound(0, 3, 2));
        dueRefused("bound, what wrong", BAD_VALUE, x -> x.bound(3, 2, 2));
        dueRefused("sizeOf, both wrong", NO_SUCH, x -> x.sizeOf(4, 2));
        dueRefused("sizeOf, what wrong", BAD_VALUE, x -> x.sizeOf(3, 2));
        dueRefused("reason, bag and what wrong", NO_SUCH, x -> x.reason(-1, 0, -1));
        dueRefused("reason, kind and what wrong", NO_SUCH, x -> x.reason(0, -1, -1));
        dueRefused("reason, what wrong", BAD_VALUE, x -> x.reason(3, 2, -1));
        dueRefused(WRITTEN, "no character, and no room", BAD_VALUE, x -> x.put(0));
        dueRefused(WRITTEN, "a wrong character, and no room", BAD_VALUE, x -> x.put(127));
        dueRefused(WRITTEN, "a right character, and no room", TOO_MANY, x -> x.put(126));
        dueRefused("no such slot, and nothing saved", BAD_VALUE, x -> x.restore(2));
        dueRefused(EMPTY, "a slot, and nothing saved", NOT_POSSIBLE, x -> x.restore(1));
        dueRefused(FULL, "a text with a fault, and no room for facts", BAD_TEXT, BagCounts::tell);
    }

    private static void anErrorChangesNothing() {
        for (int wrong : OUTSIDE) {
            dueRefused("most(" + wrong + ")", BAD_VALUE, x -> x.most(wrong));
            dueRefused("fact of form " + wrong, BAD_VALUE, x -> x.fact(wrong, 0, 0, 0, 0, 0));
            dueRefused("drop(" + wrong + ")", NO_SUCH, x -> x.drop(wrong));
            dueRefused("ofFact(" + wrong + ", 0)", NO_SUCH, x -> x.ofFact(wrong, 0));
            dueRefused("count(" + wrong + ")", BAD_VALUE, x -> x.count(wrong));
            dueRefused("bound(" + wrong + ", 0, 0)", NO_SUCH, x -> x.bound(wrong, 0, 0));
            dueRefused("sizeOf(" + wrong + ", 0)", NO_SUCH, x -> x.sizeOf(wrong, 0));
            dueRefused("least(0, " + wrong + ")", NO_SUCH, x -> x.least(0, wrong));
            dueRefused("solutions(" + wrong + ")", BAD_VALUE, x -> x.solutions(wrong));
            dueRefused("follows of form " + wrong, BAD_VALUE, x -> x.follows(wrong, 0, 0, 0, 0, 0));
            dueRefused("reason(0, " + wrong + ", 0)", NO_SUCH, x -> x.reason(0, wrong, 0));
            dueRefused("put(" + (wrong | 1L << 40) + ")", BAD_VALUE, x -> x.put(wrong | 1L << 40));
            dueRefused("save(" + wrong + ")", BAD_VALUE, x -> x.save(wrong));
            dueRefused("restore(" + wrong + ")", BAD_VALUE, x -> x.restore(wrong));
        }
        dueRefused(EMPTY, "tell", BAD_TEXT, BagCounts::tell);
        dueRefused(FULL, "tell", BAD_TEXT, BagCounts::tell);
        dueRefused(EMPTY, "undo", NOT_POSSIBLE, BagCounts::undo);
        dueRefused(WRITTEN, "undo", NOT_POSSIBLE, BagCounts::undo);
        dueRefused(SOME, "restore(1)", NOT_POSSIBLE, x -> x.restore(1));
        dueRefused(FULL, "fact", TOO_MANY, x -> x.fact(COUNT, 0, 0, 0, 0, 0));
        dueRefused(FULL, "put", TOO_MANY, x -> x.put('A'));
        dueRefused(FULL, "two refused calls", BAD_VALUE, x -> {
            x.drop(10);
            return x.fact(9, 0, 0, 0, 0, 0);
        });
    }

    private static void noneOnlyIfNoErrorApplies() {
        BagCounts torn = TORN.make();
        due("bound", torn.bound(0, 0, 0), NONE);
        due("bound of a wrong bag", torn.bound(4, 0, 0), NO_SUCH);
        due("bound of a wrong kind", torn.bound(0, 3, 0), NO_SUCH);
        due("bound of a wrong what", torn.bound(0, 0, 2), BAD_VALUE);
        due("sizeOf", torn.sizeOf(0, 0), NONE);
        due("sizeOf of a wrong bag", torn.sizeOf(4, 0), NO_SUCH);
        due("sizeOf of a wrong what", torn.sizeOf(0, 2), BAD_VALUE);
        due("least", torn.least(0, 0), NONE);
        due("least of a wrong bag", torn.least(4, 0), NO_SUCH);
        due("least of a wrong kind", torn.least(0, 3), NO_SUCH);
        due("follows", torn.follows(WITHIN, 0, 0, 0, 0, 0), NONE);
        due("follows of a wrong form", torn.follows(7, 0, 0, 0, 0, 0), BAD_VALUE);
        due("follows of a wrong number", torn.follows(WITHIN, 0, 0, 0, 0, 1), BAD_VALUE);
        due("reason", torn.reason(0, 0, 0), NONE);
        due("reason of a wrong bag", torn.reason(4, 0, 0), NO_SUCH);
        due("reason of a wrong kind", torn.reason(0, 3, 0), NO_SUCH);
        due("reason of a wrong what", torn.reason(0, 0, 2), BAD_VALUE);
        due("needless", torn.needless(), NONE);
        due("contradiction, if there is a solution", SOME.make().contradiction(), NONE);
        due("fault, if there is none", TORN.make().fault(), NONE);
        dueRefused("solutions(0), also without a solution", BAD_VALUE, x -> x.solutions(0));
    }

    private static void everythingIsNumberedFromZero() {
        BagCounts bags = new BagCounts();
        due("the first fact", bags.fact(COUNT, 0, 0, 3, 3, 0), 0);
        due("the second fact", bags.fact(COUNT, 3, 2, 2, 2, 0), 1);
        due("its form", bags.ofFact(0, 0), COUNT);
        due("the first bag and kind", bags.bound(0, 0, 0), 3);
        due("the last bag and kind", bags.bound(3, 2, 1), 2);
        due("the first slot", bags.save(0), 2);
        bags.put('~');
        due("the fault at the first character", bags.fault(), 0);
    }

    /** Nine facts that are needed for their own bounds alone, and in turn one that is asked about. */
    private static int[][] nineAnd(int place, int[] fact) {
        int[][] facts = new int[10][];
        for (int i = 0; i < 10; i++) {
            int of = i < place ? i : i - 1;
            facts[i] = i == place ? fact : fact(COUNT, of / 3, of % 3, 1, 3);
        }
        return facts;
    }

    private static void setsAreBitMasks() {
        for (int place = 0; place < 10; place++) {
            due("reason " + place, bagsOf(4, nineAnd(place, fact(COUNT, 3, 2, 1, 3))).reason(3, 2, 0), 1 << place);
            due("needless " + place, bagsOf(4, nineAnd(place, fact(COUNT, 3, 2, 0, 4))).needless(), 1 << place);
            due("contradiction " + place, bagsOf(4, nineAnd(place, fact(COUNT, 3, 2, 5, 6))).contradiction(), 1 << place);
        }
        due("an empty set", bagsOf(4, nineAnd(0, fact(COUNT, 3, 2, 1, 3))).reason(3, 1, 0), 0);
    }

    // ---- Bags

    private static void fourBags() {
        BagCounts bags = SOME.make();
        for (int bag = 0; bag < 4; bag++) {
            due("least size of bag " + bag + " is none that is refused", Math.min(bags.sizeOf(bag, 0), 0), 0);
            due("least of bag " + bag + " is none that is refused", Math.min(bags.least(bag, 0), 0), 0);
            due("bound of bag " + bag + " is none that is refused", Math.min(bags.bound(bag, 0, 1), 0), 0);
            due("reason of bag " + bag + " is none that is refused", Math.min(bags.reason(bag, 0, 1), 0), 0);
        }
        for (int bag : new int[] {-1, 4, LOWEST, HIGHEST, 256, 1 << 16}) {
            dueRefused("bound(" + bag + ", 0, 0)", NO_SUCH, x -> x.bound(bag, 0, 0));
            dueRefused("sizeOf(" + bag + ", 0)", NO_SUCH, x -> x.sizeOf(bag, 0));
            dueRefused("least(" + bag + ", 0)", NO_SUCH, x -> x.least(bag, 0));
            dueRefused("reason(" + bag + ", 0, 0)", NO_SUCH, x -> x.reason(bag, 0, 0));
        }
    }

    private static void threeKinds() {
        BagCounts bags = SOME.make();
        for (int kind = 0; kind < 3; kind++) {
            due("least of kind " + kind + " is none that is refused", Math.min(bags.least(0, kind), 0), 0);
            due("bound of kind " + kind + " is none that is refused", Math.min(bags.bound(0, kind, 1), 0), 0);
            due("reason of kind " + kind + " is none that is refused", Math.min(bags.reason(0, kind, 1), 0), 0);
        }
        for (int kind : new int[] {-1, 3, LOWEST, HIGHEST, 256, 1 << 16}) {
            dueRefused("bound(3, " + kind + ", 0)", NO_SUCH, x -> x.bound(3, kind, 0));
            dueRefused("least(3, " + kind + ")", NO_SUCH, x -> x.least(3, kind));
            dueRefused("reason(3, " + kind + ", 0)", NO_SUCH, x -> x.reason(3, kind, 0));
        }
    }

    private static void zeroToMostThings() {
        for (int most = 1; most <= 6; most++) {
            BagCounts bags = bagsOf(most);
            for (int i = 0; i < 12; i++) {
                due("least with MOST " + most, bags.bound(i / 3, i % 3, 0), 0);
                due("greatest with MOST " + most, bags.bound(i / 3, i % 3, 1), most);
            }
        }
    }

    private static void mostIsFourAtFirst() {
        BagCounts bags = new BagCounts();
        due("MOST at first", bags.count(1), 4);
        due("a count at first", bags.bound(2, 1, 1), 4);
        due("MOST may be 1", bags.most(1), 4);
        due("MOST may be 6", bags.most(6), 1);
        dueRefused("MOST may not be 0", BAD_VALUE, x -> x.most(0));
        dueRefused("MOST may not be 7", BAD_VALUE, x -> x.most(7));
    }

    private static void sizeIsTheSumOfThreeCounts() {
        for (int most = 1; most <= 6; most++) {
            for (int bag = 0; bag < 4; bag++) {
                due("least size with MOST " + most, bagsOf(most).sizeOf(bag, 0), 0);
                due("greatest size with MOST " + most, bagsOf(most).sizeOf(bag, 1), 3 * most);
            }
        }
        for (int i = 0; i < 343; i++) {
            int bag = i % 4;
            BagCounts bags = bagsOf(6, fact(COUNT, bag, 0, i % 7, i % 7), fact(COUNT, bag, 1, i / 7 % 7, i / 7 % 7),
                    fact(COUNT, bag, 2, i / 49, i / 49));
            int size = i % 7 + i / 7 % 7 + i / 49;
            due("least size of a known bag", bags.sizeOf(bag, 0), size);
            due("greatest size of a known bag", bags.sizeOf(bag, 1), size);
            due("the size of a known bag follows", follows(bags, SIZE, bag, size, size), 1);
            due("a greater size can not be", size == 18 ? 0 : follows(bags, SIZE, bag, size + 1, 18), 0);
            due("a lesser size can not be", size == 0 ? 0 : follows(bags, SIZE, bag, 0, size - 1), 0);
        }
    }

    // ---- Facts

    private static void upToTenFacts() {
        BagCounts bags = new BagCounts();
        for (int i = 0; i < 10; i++) {
            due("facts", bags.count(0), i);
            due("fact " + i, bags.fact(COUNT, i % 4, i % 3, 0, 4, 0), i);
        }
        due("ten facts", bags.count(0), 10);
        due("the eleventh", bags.fact(COUNT, 0, 0, 0, 4, 0), TOO_MANY);
        due("one is dropped", bags.drop(9), 9);
        due("one more is taken", bags.fact(COUNT, 0, 0, 0, 4, 0), 9);
        due("but not two", bags.fact(COUNT, 0, 0, 0, 4, 0), TOO_MANY);
        due("one is undone", bags.undo(), 5);
        due("one more is taken again", bags.fact(COUNT, 0, 0, 0, 4, 0), 9);
        dueRefused(FULL, "the eleventh", TOO_MANY, x -> x.fact(COUNT, 0, 0, 0, 4, 0));
    }

    private static int[] someFact(int i) {
        return i % 2 == 0 ? fact(COUNT, i % 4, i % 3, i % 7, 6) : fact(MORE, i % 4, i % 3, i / 4, i / 4, i - 6);
    }

    private static BagCounts tenOfSomeFacts() {
        BagCounts bags = new BagCounts();
        for (int i = 0; i < 10; i++) {
            due("its number", tell(bags, someFact(i)), i);
        }
        return bags;
    }

    private static void numberedInTheOrderInWhichTheyCame() {
        BagCounts bags = tenOfSomeFacts();
        for (int i = 0; i < 10; i++) {
            dueFact(bags, i, someFact(i));
        }
        due("no more", bags.ofFact(10, 0), NO_SUCH);
    }

    private static void thoseBehindADroppedOneMoveUp() {
        for (int dropped = 0; dropped < 10; dropped++) {
            BagCounts bags = tenOfSomeFacts();
            due("drop(" + dropped + ")", bags.drop(dropped), 9);
            for (int i = 0; i < 9; i++) {
                dueFact(bags, i, someFact(i < dropped ? i : i + 1));
            }
            due("the last place is empty", bags.ofFact(9, 0), NO_SUCH);
            due("nothing to drop there", bags.drop(9), NO_SUCH);
            BagCounts sets = bagsOf(4, nineAnd(9, fact(COUNT, 3, 2, 5, 6)));
            sets.drop(dropped);
            due("the set without " + dropped, sets.contradiction(), dropped == 9 ? NONE : 1 << 8);
        }
    }

    private static void untoldNumbersHaveToBeZero() {
        int[] told = {4, 3, 3, 3, 3, 2, 5};
        for (int form = 0; form < 7; form++) {
            int[] n = fact(form, 1, 1, 1, 1, 1);
            for (int place = told[form] + 1; place < 6; place++) {
                n[place] = 0;
            }
            due(FORMS[form] + " with zeros", tell(new BagCounts(), n), 0);
            for (int place = told[form] + 1; place < 6; place++) {
                for (int number : new int[] {-1, 1, 100, LOWEST, HIGHEST}) {
                    int[] wrong = n.clone();
                    wrong[place] = number;
                    dueNoFact(FORMS[form] + " with " + number + " at " + place, wrong);
                }
            }
        }
    }

    /** Both fact() and follows() refuse the numbers, in every scene, and nothing is different then. */
    private static void dueNoFact(String what, int... n) {
        dueRefused("fact: " + what, BAD_VALUE, x -> tell(x, n));
        dueRefused("follows: " + what, BAD_VALUE, x -> x.follows(n[0], n[1], n[2], n[3], n[4], n[5]));
    }

    /** Whether fact() and follows() take the numbers on a new object. */
    private static void dueTaken(boolean isTaken, int... n) {
        String what = List.of(FORMS[n[0]], n[1], n[2], n[3], n[4], n[5]).toString();
        BagCounts bags = new BagCounts();
        due(what, tell(bags, n), isTaken ? 0 : BAD_VALUE);
        due("facts behind " + what, bags.count(0), isTaken ? 1 : 0);
        due("changes behind " + what, bags.count(3), isTaken ? 1 : 0);
        int follows = new BagCounts().follows(n[0], n[1], n[2], n[3], n[4], n[5]);
        due("follows with " + what, follows < 0 ? follows : 0, isTaken ? 0 : BAD_VALUE);
    }

    private static void rangeOfCount() {
        for (int c = -2; c <= 8; c++) {
            for (int d = -2; d <= 8; d++) {
                dueTaken(c >= 0 && d >= c && d <= 6, COUNT, 3, 2, c, d, 0);
            }
        }
        dueNoFact("c is -1", COUNT, 0, 0, -1, 6, 0);
        dueNoFact("c is 7", COUNT, 0, 0, 7, 7, 0);
        dueNoFact("d is 7", COUNT, 0, 0, 0, 7, 0);
        dueNoFact("d is c - 1", COUNT, 0, 0, 6, 5, 0);
        dueNoFact("d is far above", COUNT, 0, 0, 0, HIGHEST, 0);
        dueNoFact("c is far below", COUNT, 0, 0, LOWEST, 6, 0);
        dueNoFact("c is far above d", COUNT, 0, 0, HIGHEST, LOWEST, 0);
    }

    private static void rangeOfSize() {
        for (int b = -2; b <= 20; b++) {
            for (int c = -2; c <= 20; c++) {
                dueTaken(b >= 0 && c >= b && c <= 18, SIZE, 3, b, c, 0, 0);
            }
        }
        dueNoFact("b is -1", SIZE, 0, -1, 18, 0, 0);
        dueNoFact("b is 19", SIZE, 0, 19, 19, 0, 0);
        dueNoFact("c is 19", SIZE, 0, 0, 19, 0, 0);
        dueNoFact("c is b - 1", SIZE, 0, 18, 17, 0, 0);
        dueNoFact("c is far above", SIZE, 0, 0, HIGHEST, 0, 0);
        dueNoFact("b is far below", SIZE, 0, LOWEST, 18, 0, 0);
        dueNoFact("b is far above c", SIZE, 0, HIGHEST, LOWEST, 0, 0);
    }

    private static void rangeOfMore() {
        for (int e = -9; e <= 9; e++) {
            dueTaken(e >= -6 && e <= 6, MORE, 0, 0, 3, 2, e);
        }
        dueNoFact("e is -7", MORE, 0, 0, 1, 1, -7);
        dueNoFact("e is 7", MORE, 0, 0, 1, 1, 7);
        dueNoFact("e is far below", MORE, 0, 0, 1, 1, LOWEST);
        dueNoFact("e is far above", MORE, 0, 0, 1, 1, HIGHEST);
        dueNoFact("e is told with 100 more", MORE, 0, 0, 1, 1, 100);
    }

    private static void bagsOfFacts() {
        String[] bagPlaces = {"1", "1", "123", "123", "123", "12", "13"};
        for (int form = 0; form < 7; form++) {
            for (char place : bagPlaces[form].toCharArray()) {
                for (int bag = -2; bag <= 5; bag++) {
                    int[] n = fact(form);
                    n[place - '0'] = bag;
                    dueTaken(bag >= 0 && bag <= 3, n);
                }
                for (int bag : new int[] {-1, 4, LOWEST, HIGHEST}) {
                    int[] n = fact(form);
                    n[place - '0'] = bag;
                    dueNoFact(FORMS[form] + " with the bag " + bag + " at " + place, n);
                }
            }
        }
    }

    private static void kindsOfFacts() {
        String[] kindPlaces = {"2", "", "", "", "", "", "24"};
        for (int form = 0; form < 7; form++) {
            for (char place : kindPlaces[form].toCharArray()) {
                for (int kind = -2; kind <= 5; kind++) {
                    int[] n = fact(form);
                    n[place - '0'] = kind;
                    dueTaken(kind >= 0 && kind <= 2, n);
                }
                for (int kind : new int[] {-1, 3, LOWEST, HIGHEST}) {
                    int[] n = fact(form);
                    n[place - '0'] = kind;
                    dueNoFact(FORMS[form] + " with the kind " + kind + " at " + place, n);
                }
            }
        }
    }

    private static void formsOfFacts() {
        for (int form = 0; form < 7; form++) {
            dueTaken(true, fact(form));
        }
        due("COUNT", BagCounts.COUNT, 0);
        due("SIZE", BagCounts.SIZE, 1);
        due("SUM", BagCounts.SUM, 2);
        due("GREATEST", BagCounts.GREATEST, 3);
        due("LEAST", BagCounts.LEAST, 4);
        due("WITHIN", BagCounts.WITHIN, 5);
        due("MORE", BagCounts.MORE, 6);
        for (int form : new int[] {-1, 7, LOWEST, HIGHEST, 256}) {
            dueNoFact("the form " + form, form, 0, 0, 0, 0, 0);
        }
    }

    private static void theSameBagInSeveralPlaces() {
        for (int i = 0; i < 64; i++) {
            int[] n = {i % 4, i / 4 % 4, i / 16};
            if (n[0] == n[1] || n[0] == n[2] || n[1] == n[2]) {
                for (int u = 0; u <= 6; u++) {
                    for (int v = 0; v <= 6; v++) {
                        dueOfTwoBags(n, u, v);
                    }
                }
            }
        }
        for (int bag = 0; bag < 4; bag++) {
            due("a bag within itself", follows(new BagCounts(), WITHIN, bag, bag), 1);
            due("the greatest of itself", follows(new BagCounts(), GREATEST, bag, bag, bag), 1);
            due("the least of itself", follows(new BagCounts(), LEAST, bag, bag, bag), 1);
            due("twice itself", follows(new BagCounts(), SUM, bag, bag, bag), 2);
            due("twice itself is empty", bagsOf(6, fact(SUM, bag, bag, bag)).sizeOf(bag, 1), 0);
            for (int e = -6; e <= 6; e++) {
                due("itself plus " + e, follows(bagsOf(6), MORE, bag, bag % 3, bag, bag % 3, e), e <= 0 ? 1 : 0);
                due("itself plus " + e, bagsOf(6, fact(MORE, bag, 2, bag, 2, e)).isPossible(), e <= 0 ? 1 : 0);
            }
        }
    }

    /** Of one kind there are u things in the bag n[0] and v in the other one; of the other kinds there are none. */
    private static void dueOfTwoBags(int[] n, int u, int v) {
        int other = n[1] != n[0] ? n[1] : n[2];
        int kind = (u + v) % 3;
        int b = n[1] == n[0] ? u : v;
        int c = n[2] == n[0] ? u : v;
        boolean[] holds = {u == b + c, u == Math.max(b, c), u == Math.min(b, c)};
        BagCounts bags = bagsOf(6, fact(COUNT, n[0], kind, u, u), fact(SIZE, n[0], u, u));
        if (other != n[0]) {
            tell(bags, fact(COUNT, other, kind, v, v));
            tell(bags, fact(SIZE, other, v, v));
        } else if (u != v) {
            return;
        }
        for (int form = SUM; form <= LEAST; form++) {
            String what = FORMS[form] + " of " + n[0] + n[1] + n[2] + " with " + u + " and " + v;
            due(what, follows(bags, form, n), holds[form - SUM] ? 1 : 0);
            tell(bags, fact(form, n));
            due(what + " told", bags.isPossible(), holds[form - SUM] ? 1 : 0);
            bags.undo();
        }
    }

    // ---- forms

    /** Bags of which all counts are known. */
    private static BagCounts known(int[] at, int[]... counts) {
        BagCounts bags = bagsOf(6);
        for (int i = 0; i < counts.length; i++) {
            for (int kind = 0; kind < 3; kind++) {
                bags.fact(COUNT, at[i], kind, counts[i][kind], counts[i][kind], 0);
            }
        }
        return bags;
    }

    private interface Relation {
        boolean holds(int a, int b, int c);
    }

    /** The fact holds or not by one kind alone, as it holds of the others, of which there are the usual counts. */
    private static void dueOfEachKind(int form, int[] usual, Relation relation) {
        for (int[] at : TRIPLES) {
            for (int i = 0; i < 3 * 343; i++) {
                int kind = i / 343;
                int[] n = {i % 7, i / 7 % 7, i / 49 % 7};
                int[][] counts = new int[3][3];
                for (int bag = 0; bag < 3; bag++) {
                    for (int k = 0; k < 3; k++) {
                        counts[bag][k] = k == kind ? n[bag] : usual[bag];
                    }
                }
                int[] numbers = form == WITHIN ? new int[] {at[0], at[1]} : at;
                due(FORMS[form] + " of the kind " + kind + " with " + n[0] + ", " + n[1] + ", " + n[2],
                        follows(known(at, counts), form, numbers), relation.holds(n[0], n[1], n[2]) ? 1 : 0);
            }
        }
    }

    private static void sumOfEachKind() {
        dueOfEachKind(SUM, new int[] {5, 1, 4}, (a, b, c) -> a == b + c);
    }

    private static void greatestOfEachKind() {
        dueOfEachKind(GREATEST, new int[] {4, 1, 4}, (a, b, c) -> a == Math.max(b, c));
        dueOfEachKind(GREATEST, new int[] {4, 4, 1}, (a, b, c) -> a == Math.max(b, c));
    }

    private static void leastOfEachKind() {
        dueOfEachKind(LEAST, new int[] {1, 1, 4}, (a, b, c) -> a == Math.min(b, c));
        dueOfEachKind(LEAST, new int[] {1, 4, 1}, (a, b, c) -> a == Math.min(b, c));
    }

    private static void withinOfEachKind() {
        dueOfEachKind(WITHIN, new int[] {3, 3, 0}, (a, b, c) -> a <= b);
        dueOfEachKind(WITHIN, new int[] {0, 6, 3}, (a, b, c) -> a <= b);
    }

    private static void moreIsAtLeastPlusE() {
        for (int i = 0; i < 12 * 12; i++) {
            int one = i % 12;
            int other = i / 12;
            for (int u = 0; u <= 6 && one != other; u++) {
                for (int v = 0; v <= 6; v++) {
                    BagCounts bags = bagsOf(6, fact(COUNT, one / 3, one % 3, u, u), fact(COUNT, other / 3, other % 3, v, v));
                    for (int e = -6; e <= 6; e++) {
                        due(u + " is at least " + v + " plus " + e,
                                follows(bags, MORE, one / 3, one % 3, other / 3, other % 3, e), u >= v + e ? 1 : 0);
                    }
                }
            }
        }
        for (int e = 0; e <= 6; e++) {
            BagCounts bags = bagsOf(6, fact(MORE, 2, 1, 3, 0, e), fact(MORE, 1, 2, 2, 2, -e));
            due("least with " + e, bags.bound(2, 1, 0), e);
            due("greatest of the other with " + e, bags.bound(3, 0, 1), 6 - e);
            due("greatest below 0 with " + e, bags.bound(2, 2, 1), 6);
            bags.fact(COUNT, 1, 2, 0, 0, 0);
            due("as many more as " + e, bags.bound(2, 2, 1), e);
        }
    }

    private static void countHasCToD() {
        for (int i = 0; i < 12; i++) {
            for (int c = 0; c <= 6; c++) {
                for (int d = c; d <= 6; d++) {
                    BagCounts bags = bagsOf(6, fact(COUNT, i / 3, i % 3, c, d));
                    due("the least of " + c + " to " + d, bags.bound(i / 3, i % 3, 0), c);
                    due("the greatest of " + c + " to " + d, bags.bound(i / 3, i % 3, 1), d);
                    due("the least size with " + c + " to " + d, bags.sizeOf(i / 3, 0), c);
                    due("the greatest size with " + c + " to " + d, bags.sizeOf(i / 3, 1), 12 + d);
                    due("the next bag", bags.sizeOf((i / 3 + 1) % 4, 1), 18);
                    due("c to d follows", follows(bags, COUNT, i / 3, i % 3, c, d), 1);
                    if (c < d) {
                        due("c + 1 to d does not follow", follows(bags, COUNT, i / 3, i % 3, c + 1, d), 2);
                        due("c to d - 1 does not follow", follows(bags, COUNT, i / 3, i % 3, c, d - 1), 2);
                    }
                    if (c > 0) {
                        due("below c it can not be", follows(bags, COUNT, i / 3, i % 3, 0, c - 1), 0);
                    }
                    if (d < 6) {
                        due("above d it can not be", follows(bags, COUNT, i / 3, i % 3, d + 1, 6), 0);
                    }
                }
            }
        }
    }

    private static void sizeIsBToC() {
        for (int b = 0; b <= 18; b++) {
            for (int c = b; c <= 18; c++) {
                int bag = (b + c) % 4;
                BagCounts bags = bagsOf(6, fact(SIZE, bag, b, c));
                due("the least of " + b + " to " + c, bags.sizeOf(bag, 0), b);
                due("the greatest of " + b + " to " + c, bags.sizeOf(bag, 1), c);
                due("the next bag", bags.sizeOf((bag + 1) % 4, 1), 18);
                due("b to c follows", follows(bags, SIZE, bag, b, c), 1);
                if (b < c) {
                    due("b + 1 to c does not follow", follows(bags, SIZE, bag, b + 1, c), 2);
                    due("b to c - 1 does not follow", follows(bags, SIZE, bag, b, c - 1), 2);
                }
                if (b > 0) {
                    due("below b it can not be", follows(bags, SIZE, bag, 0, b - 1), 0);
                }
                if (c < 18) {
                    due("above c it can not be", follows(bags, SIZE, bag, c + 1, 18), 0);
                }
            }
        }
    }

    // ---- solutions

    private static void aSolutionIsZeroToMostEach() {
        for (int most = 1; most <= 6; most++) {
            for (int i = 0; i < 12; i++) {
                int bag = i / 3;
                int kind = i % 3;
                BagCounts none = bagsOf(most);
                due("0 to MOST follows", follows(none, COUNT, bag, kind, 0, most), 1);
                due("MOST is possible", follows(none, COUNT, bag, kind, most, 6), 2);
                due("MOST + 1 follows not", most == 6 ? 0 : follows(none, COUNT, bag, kind, most + 1, 6), 0);
                due("bound of MOST to 6", bagsOf(most, fact(COUNT, bag, kind, most, 6)).bound(bag, kind, 1), most);
                due("MOST + 1 to 6", most == 6 ? 0 : bagsOf(most, fact(COUNT, bag, kind, most + 1, 6)).isPossible(), 0);
                due("more by MOST", bagsOf(most, fact(MORE, bag, kind, (bag + 1) % 4, kind, most)).isPossible(), 1);
                due("more by MOST + 1",
                        most == 6 ? 0 : bagsOf(most, fact(MORE, bag, kind, (bag + 1) % 4, kind, most + 1)).isPossible(), 0);
                due("fewer by MOST", follows(none, MORE, bag, kind, (bag + 1) % 4, kind, -most), 1);
                due("fewer by MOST - 1", follows(none, MORE, bag, kind, (bag + 1) % 4, kind, 1 - most), 2);
                due("a sum above MOST", bagsOf(most, fact(SUM, (bag + 3) % 4, bag, (bag + 1) % 4), fact(COUNT, bag, kind, most, 6),
                        fact(COUNT, (bag + 1) % 4, kind, 1, 6)).isPossible(), 0);
                due("a sum of MOST", bagsOf(most, fact(SUM, (bag + 3) % 4, bag, (bag + 1) % 4), fact(COUNT, bag, kind, most, 6),
                        fact(COUNT, (bag + 1) % 4, kind, 0, 6)).isPossible(), 1);
            }
            due("size of 3 * MOST", bagsOf(most, fact(SIZE, 2, 3 * most, 18)).isPossible(), 1);
            due("size above 3 * MOST", most == 6 ? 0 : bagsOf(most, fact(SIZE, 2, 3 * most + 1, 18)).isPossible(), 0);
        }
        BagCounts bags = bagsOf(2, fact(COUNT, 0, 0, 3, 6));
        due("a fact above MOST", bags.isPossible(), 0);
        bags.most(3);
        due("a higher MOST", bags.bound(0, 0, 1), 3);
        bags.most(6);
        due("the highest MOST", bags.bound(0, 0, 1), 6);
    }

    /** Two bags of which one has to have a thing: the later one has it. */
    private static void theFirstBagIsComparedFirst() {
        for (int i = 0; i < 4 * 4 * 3; i++) {
            int one = i % 4;
            int other = i / 4 % 4;
            int kind = i / 16;
            int greatest = one != 0 && other != 0 ? 0 : one != 3 && other != 3 ? 3 : one != 1 && other != 1 ? 1 : 2;
            if (one < other) {
                BagCounts bags = bagsOf(4, fact(GREATEST, greatest, one, other), fact(COUNT, greatest, kind, 2, 4));
                int[] want = new int[12];
                want[3 * greatest + kind] = 2;
                want[3 * other + kind] = 2;
                dueLeast(bags, want);
            }
        }
    }

    /** A bag that has to have some things: it has those of the later kinds. */
    private static void theFirstKindIsComparedFirst() {
        for (int bag = 0; bag < 4; bag++) {
            for (int size = 0; size <= 12; size++) {
                int[] want = new int[12];
                want[3 * bag + 2] = Math.min(4, size);
                want[3 * bag + 1] = Math.max(0, Math.min(4, size - 4));
                want[3 * bag] = Math.max(0, size - 8);
                dueLeast(bagsOf(4, fact(SIZE, bag, size, 12)), want);
            }
        }
        dueLeast(bagsOf(4, fact(SIZE, 0, 3, 5), fact(MORE, 1, 0, 0, 2, 1), fact(MORE, 2, 1, 0, 1, 2), fact(SIZE, 3, 9, 9)),
                0, 0, 3, 4, 0, 0, 0, 2, 0, 1, 4, 4);
    }
}
