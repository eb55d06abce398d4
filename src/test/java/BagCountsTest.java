/** At least one test for each promise of the document: ordinary inputs, the edges that it names, wrong inputs. */
public final class BagCountsTest extends Checks {
    public static void main(String[] arguments) {
        constants();
        newObject();
        most();
        factRanges();
        factNumbers();
        drop();
        ofFact();
        count();
        isPossible();
        bound();
        boundByForms();
        sizeOf();
        least();
        solutions();
        follows();
        contradiction();
        reason();
        needless();
        put();
        wipe();
        faultsOfFacts();
        faultsOfNumbers();
        tell();
        undo();
        save();
        restore();
        errorsChangeNothing();
        hardFacts();
        factsThatRangesDoNotTell();
        finish("BagCountsTest");
    }

    private static void constants() {
        due("NO_SUCH", BagCounts.NO_SUCH, NO_SUCH);
        due("BAD_VALUE", BagCounts.BAD_VALUE, BAD_VALUE);
        due("BAD_TEXT", BagCounts.BAD_TEXT, BAD_TEXT);
        due("TOO_MANY", BagCounts.TOO_MANY, TOO_MANY);
        due("NOT_POSSIBLE", BagCounts.NOT_POSSIBLE, NOT_POSSIBLE);
        due("NONE", BagCounts.NONE, NONE);
        due("COUNT", BagCounts.COUNT, COUNT);
        due("SIZE", BagCounts.SIZE, SIZE);
        due("SUM", BagCounts.SUM, SUM);
        due("GREATEST", BagCounts.GREATEST, GREATEST);
        due("LEAST", BagCounts.LEAST, LEAST);
        due("WITHIN", BagCounts.WITHIN, WITHIN);
        due("MORE", BagCounts.MORE, MORE);
    }

    /** Promise 1. */
    private static void newObject() {
        BagCounts bags = new BagCounts();
        due("facts at first", bags.count(0), 0);
        due("MOST at first", bags.count(1), 4);
        due("pad at first", bags.count(2), 0);
        due("changes at first", bags.count(3), 0);
        due("fault at first", bags.fault(), 0);
        due("isPossible at first", bags.isPossible(), 1);
        due("solutions at first", bags.solutions(500), 500);
        due("undo at first", bags.undo(), NOT_POSSIBLE);
        due("restore(0) at first", bags.restore(0), NOT_POSSIBLE);
        due("restore(1) at first", bags.restore(1), NOT_POSSIBLE);
        for (int bag = 0; bag < 4; bag++) {
            due("least size at first", bags.sizeOf(bag, 0), 0);
            due("greatest size at first", bags.sizeOf(bag, 1), 12);
            for (int kind = 0; kind < 3; kind++) {
                due("least count at first", bags.bound(bag, kind, 0), 0);
                due("greatest count at first", bags.bound(bag, kind, 1), 4);
            }
        }
    }

    /** Promise 2. */
    private static void most() {
        BagCounts bags = new BagCounts();
        due("most(0)", bags.most(0), BAD_VALUE);
        due("most(7)", bags.most(7), BAD_VALUE);
        due("most(-1)", bags.most(-1), BAD_VALUE);
        due("most of the lowest", bags.most(LOWEST), BAD_VALUE);
        due("most of the highest", bags.most(HIGHEST), BAD_VALUE);
        due("changes after errors", bags.count(3), 0);
        due("most(1)", bags.most(1), 4);
        due("bound with MOST 1", bags.bound(3, 2, 1), 1);
        due("most(6)", bags.most(6), 1);
        due("bound with MOST 6", bags.bound(3, 2, 1), 6);
        due("size with MOST 6", bags.sizeOf(3, 1), 18);
        due("most(6) again", bags.most(6), 6);
        due("changes", bags.count(3), 3);
    }

    /** Promise 3: what may stand in each place of each form. */
    private static void factRanges() {
        int[][] lows = {{0, 0, 0, 0, 0, 0}, {1, 0, 0, 0, 0, 0}, {2, 0, 0, 0, 0, 0}, {3, 0, 0, 0, 0, 0},
            {4, 0, 0, 0, 0, 0}, {5, 0, 0, 0, 0, 0}, {6, 0, 0, 0, 0, -6}};
        int[][] highs = {{0, 3, 2, 6, 6, 0}, {1, 3, 18, 18, 0, 0}, {2, 3, 3, 3, 0, 0}, {3, 3, 3, 3, 0, 0},
            {4, 3, 3, 3, 0, 0}, {5, 3, 3, 0, 0, 0}, {6, 3, 2, 3, 2, 6}};
        for (int form = 0; form < 7; form++) {
            due("lowest of form " + form, tell(new BagCounts(), lows[form]), 0);
            due("highest of form " + form, tell(new BagCounts(), highs[form]), 0);
            for (int place = 1; place < 6; place++) {
                for (int step : new int[] {-1, 1, LOWEST, HIGHEST}) {
                    int[] n = step == 1 || step == HIGHEST ? highs[form].clone() : lows[form].clone();
                    n[place] = step == 1 || step == -1 ? n[place] + step : step;
                    BagCounts bags = new BagCounts();
                    due("form " + form + " place " + place + " is " + n[place], tell(bags, n), BAD_VALUE);
                    due("facts after an error", bags.count(0), 0);
                    due("changes after an error", bags.count(3), 0);
                }
            }
        }
        for (int form : new int[] {-1, 7, LOWEST, HIGHEST}) {
            due("form " + form, new BagCounts().fact(form, 0, 0, 0, 0, 0), BAD_VALUE);
        }
        due("COUNT with d below c", new BagCounts().fact(COUNT, 0, 0, 3, 2, 0), BAD_VALUE);
        due("COUNT with d as c", new BagCounts().fact(COUNT, 0, 0, 3, 3, 0), 0);
        due("SIZE with c below b", new BagCounts().fact(SIZE, 0, 10, 9, 0, 0), BAD_VALUE);
        due("SIZE with c as b", new BagCounts().fact(SIZE, 0, 10, 10, 0, 0), 0);
    }

    /** Promise 3: numbers, and no more than ten. */
    private static void factNumbers() {
        BagCounts bags = new BagCounts();
        for (int i = 0; i < 10; i++) {
            due("fact " + i, bags.fact(WITHIN, 0, 0, 0, 0, 0), i);
        }
        due("an eleventh fact", bags.fact(WITHIN, 0, 0, 0, 0, 0), TOO_MANY);
        due("a wrong eleventh fact", bags.fact(WITHIN, 0, 4, 0, 0, 0), BAD_VALUE);
        due("facts", bags.count(0), 10);
        due("follows with ten facts", bags.follows(WITHIN, 0, 1, 0, 0, 0), 2);
        due("needless with ten facts", bags.needless(), 1023);
    }

    /** Promise 4. */
    private static void drop() {
        BagCounts bags = bagsOf(4, fact(COUNT, 0, 0, 1, 1), fact(COUNT, 1, 1, 2, 2), fact(MORE, 2, 2, 3, 0, -3));
        due("drop(-1)", bags.drop(-1), NO_SUCH);
        due("drop(3)", bags.drop(3), NO_SUCH);
        due("drop of the highest", bags.drop(HIGHEST), NO_SUCH);
        due("drop of the lowest", bags.drop(LOWEST), NO_SUCH);
        due("changes", bags.count(3), 4);
        due("drop(1)", bags.drop(1), 2);
        dueFact(bags, 0, fact(COUNT, 0, 0, 1, 1));
        dueFact(bags, 1, fact(MORE, 2, 2, 3, 0, -3));
        due("a dropped fact's bound", bags.bound(1, 1, 1), 4);
        due("drop(0)", bags.drop(0), 1);
        dueFact(bags, 0, fact(MORE, 2, 2, 3, 0, -3));
        due("drop(0) again", bags.drop(0), 0);
        due("drop of none", bags.drop(0), NO_SUCH);
        BagCounts full = new BagCounts();
        for (int i = 0; i < 10; i++) {
            full.fact(COUNT, i % 4, i % 3, 0, i % 7, 0);
        }
        due("drop(9) of ten", full.drop(9), 9);
        due("drop(0) of nine", full.drop(0), 8);
        dueFact(full, 7, fact(COUNT, 0, 2, 0, 1));
        due("ofFact behind the last", full.ofFact(8, 0), NO_SUCH);
    }

    /** Promise 5. */
    private static void ofFact() {
        BagCounts bags = bagsOf(4, fact(MORE, 3, 2, 1, 0, -6), fact(MORE, 0, 1, 2, 2, 6), fact(SIZE, 2, 17, 18));
        dueFact(bags, 0, fact(MORE, 3, 2, 1, 0, -6));
        dueFact(bags, 1, fact(MORE, 0, 1, 2, 2, 6));
        dueFact(bags, 2, fact(SIZE, 2, 17, 18));
        due("ofFact(0, 5)", bags.ofFact(0, 5), 94);
        due("ofFact(1, 5)", bags.ofFact(1, 5), 106);
        due("ofFact(0, -1)", bags.ofFact(0, -1), BAD_VALUE);
        due("ofFact(0, 6)", bags.ofFact(0, 6), BAD_VALUE);
        due("ofFact(3, 0)", bags.ofFact(3, 0), NO_SUCH);
        due("ofFact(-1, 0)", bags.ofFact(-1, 0), NO_SUCH);
        due("both wrong", bags.ofFact(3, 6), NO_SUCH);
        due("the highest", bags.ofFact(HIGHEST, HIGHEST), NO_SUCH);
        due("the lowest", bags.ofFact(0, LOWEST), BAD_VALUE);
    }

    /** Promise 6. */
    private static void count() {
        BagCounts bags = bagsOf(5, fact(WITHIN, 0, 1));
        write(bags, "A<B;");
        due("count(0)", bags.count(0), 1);
        due("count(1)", bags.count(1), 5);
        due("count(2)", bags.count(2), 4);
        due("count(3)", bags.count(3), 2);
        due("count(-1)", bags.count(-1), BAD_VALUE);
        due("count(4)", bags.count(4), BAD_VALUE);
        due("count of the lowest", bags.count(LOWEST), BAD_VALUE);
        due("count of the highest", bags.count(HIGHEST), BAD_VALUE);
    }

    /** Promise 7: each form against a fact that it does not go with. */
    private static void isPossible() {
        due("COUNT above MOST", bagsOf(4, fact(COUNT, 0, 0, 5, 6)).isPossible(), 0);
        due("COUNT at MOST", bagsOf(4, fact(COUNT, 0, 0, 4, 6)).isPossible(), 1);
        due("SIZE above 3 * MOST", bagsOf(4, fact(SIZE, 0, 13, 18)).isPossible(), 0);
        due("SIZE at 3 * MOST", bagsOf(4, fact(SIZE, 0, 12, 18)).isPossible(), 1);
        due("MORE than itself", bagsOf(4, fact(MORE, 1, 1, 1, 1, 1)).isPossible(), 0);
        due("MORE than itself by nothing", bagsOf(4, fact(MORE, 1, 1, 1, 1, 0)).isPossible(), 1);
        due("MORE by MOST", bagsOf(4, fact(MORE, 1, 1, 2, 0, 4)).isPossible(), 1);
        due("MORE by more than MOST", bagsOf(4, fact(MORE, 1, 1, 2, 0, 5)).isPossible(), 0);
        due("a ring of MORE", bagsOf(6, fact(MORE, 0, 0, 1, 1, 1), fact(MORE, 1, 1, 2, 2, -1), fact(MORE, 2, 2, 0, 0, 0))
                .isPossible(), 1);
        due("a ring of MORE that grows", bagsOf(6, fact(MORE, 0, 0, 1, 1, 1), fact(MORE, 1, 1, 2, 2, -1),
                fact(MORE, 2, 2, 0, 0, 1)).isPossible(), 0);
        due("a sum of itself and one more", bagsOf(4, fact(SUM, 0, 0, 1), fact(SIZE, 1, 1, 12)).isPossible(), 0);
        due("twice is not odd", bagsOf(6, fact(SUM, 0, 1, 1), fact(SIZE, 0, 7, 7)).isPossible(), 0);
        due("twice is even", bagsOf(6, fact(SUM, 0, 1, 1), fact(SIZE, 0, 8, 8)).isPossible(), 1);
        due("the greatest of two is no third", bagsOf(4, fact(GREATEST, 0, 1, 2), fact(MORE, 0, 0, 1, 0, 1),
                fact(MORE, 0, 0, 2, 0, 1)).isPossible(), 0);
        due("the least of two is no third", bagsOf(4, fact(LEAST, 0, 1, 2), fact(MORE, 1, 0, 0, 0, 1),
                fact(MORE, 2, 0, 0, 0, 1)).isPossible(), 0);
        due("within, but larger", bagsOf(4, fact(WITHIN, 0, 1), fact(SIZE, 0, 5, 5), fact(SIZE, 1, 4, 4)).isPossible(), 0);
        due("greatest and least have the size of both", bagsOf(6, fact(GREATEST, 0, 1, 2), fact(LEAST, 3, 1, 2),
                fact(SIZE, 0, 10, 10), fact(SIZE, 3, 4, 4), fact(SIZE, 1, 7, 7), fact(SIZE, 2, 8, 8)).isPossible(), 0);
    }

    /** Promise 8. */
    private static void bound() {
        BagCounts bags = bagsOf(6, fact(SUM, 0, 1, 2), fact(COUNT, 1, 0, 2, 3), fact(MORE, 2, 0, 1, 0, 1), fact(SIZE, 0, 16, 17));
        due("A's least x", bags.bound(0, 0, 0), 5);
        due("A's greatest x", bags.bound(0, 0, 1), 6);
        due("B's greatest x", bags.bound(1, 0, 1), 2);
        due("C's least x", bags.bound(2, 0, 0), 3);
        due("A's least y", bags.bound(0, 1, 0), 4);
        due("A's greatest y", bags.bound(0, 1, 1), 6);
        due("bound of bag 4", bags.bound(4, 0, 0), NO_SUCH);
        due("bound of bag -1", bags.bound(-1, 0, 0), NO_SUCH);
        due("bound of kind 3", bags.bound(0, 3, 0), NO_SUCH);
        due("bound of kind -1", bags.bound(0, -1, 0), NO_SUCH);
        due("bound of what 2", bags.bound(0, 0, 2), BAD_VALUE);
        due("bound of what -1", bags.bound(0, 0, -1), BAD_VALUE);
        due("bound with all wrong", bags.bound(HIGHEST, LOWEST, HIGHEST), NO_SUCH);
        bags.fact(COUNT, 1, 0, 3, 3, 0);
        due("bound without a solution", bags.bound(0, 0, 0), NONE);
        due("an error comes first", bags.bound(0, 0, 2), BAD_VALUE);
        due("no such kind comes first", bags.bound(0, 3, 2), NO_SUCH);
    }

    /** Promise 8: what each form does to the bounds. */
    private static void boundByForms() {
        BagCounts greatest = bagsOf(4, fact(GREATEST, 0, 1, 2), fact(COUNT, 1, 0, 1, 2), fact(COUNT, 0, 0, 3, 4));
        due("C has what B has not", greatest.bound(2, 0, 0), 3);
        due("B is not the greatest", greatest.bound(1, 0, 1), 2);
        BagCounts least = bagsOf(4, fact(LEAST, 0, 1, 2), fact(COUNT, 1, 0, 3, 4), fact(COUNT, 0, 0, 1, 2));
        due("C has as few as A", least.bound(2, 0, 1), 2);
        due("A has as many as C", least.bound(0, 0, 1), 2);
        due("B is not the least", least.bound(1, 0, 0), 3);
        BagCounts within = bagsOf(4, fact(WITHIN, 0, 1), fact(COUNT, 0, 2, 2, 3), fact(COUNT, 1, 1, 0, 1));
        due("B has A's z", within.bound(1, 2, 0), 2);
        due("A has no more y than B", within.bound(0, 1, 1), 1);
        BagCounts size = bagsOf(4, fact(SIZE, 3, 10, 10), fact(COUNT, 3, 0, 0, 3));
        due("D's least y", size.bound(3, 1, 0), 3);
        due("D's least x", size.bound(3, 0, 0), 2);
        BagCounts more = bagsOf(4, fact(MORE, 0, 0, 0, 1, 2), fact(MORE, 0, 1, 1, 2, -1), fact(COUNT, 1, 2, 3, 3));
        due("A's least y", more.bound(0, 1, 0), 2);
        due("A's least x", more.bound(0, 0, 0), 4);
    }

    /** Promise 9. */
    private static void sizeOf() {
        BagCounts bags = bagsOf(3, fact(COUNT, 0, 0, 1, 2), fact(COUNT, 0, 2, 2, 6), fact(WITHIN, 0, 1), fact(SIZE, 2, 4, 5),
                fact(GREATEST, 3, 0, 2));
        due("A's least size", bags.sizeOf(0, 0), 3);
        due("A's greatest size", bags.sizeOf(0, 1), 8);
        due("B's least size", bags.sizeOf(1, 0), 3);
        due("B's greatest size", bags.sizeOf(1, 1), 9);
        due("C's greatest size", bags.sizeOf(2, 1), 5);
        due("D's least size", bags.sizeOf(3, 0), 4);
        due("D's greatest size", bags.sizeOf(3, 1), 9);
        due("size of bag 4", bags.sizeOf(4, 0), NO_SUCH);
        due("size of bag -1", bags.sizeOf(-1, 0), NO_SUCH);
        due("size with what 2", bags.sizeOf(0, 2), BAD_VALUE);
        due("size with what -1", bags.sizeOf(0, -1), BAD_VALUE);
        due("size with both wrong", bags.sizeOf(LOWEST, HIGHEST), NO_SUCH);
        bags.fact(SIZE, 1, 0, 2, 0, 0);
        due("size without a solution", bags.sizeOf(0, 0), NONE);
        due("what comes first", bags.sizeOf(0, 2), BAD_VALUE);
    }

    /** Promise 10: the counts of the bag 0 are compared first, so that the counts of the others may be large. */
    private static void least() {
        BagCounts bags = bagsOf(4, fact(SIZE, 0, 5, 6), fact(SUM, 3, 0, 1), fact(MORE, 3, 2, 2, 0, 1), fact(SIZE, 1, 2, 12));
        dueLeast(bags, 0, 1, 4, 0, 2, 0, 0, 0, 0, 0, 3, 4);
        dueLeast(bagsOf(4, fact(MORE, 1, 0, 0, 0, 2), fact(MORE, 0, 0, 2, 2, 1), fact(GREATEST, 0, 2, 3)),
                1, 0, 0, 3, 0, 0, 0, 0, 0, 1, 0, 0);
        dueLeast(new BagCounts(), 0, 0, 0, 0, 0, 0, 0, 0, 0, 0, 0, 0);
        due("least of bag 4", bags.least(4, 0), NO_SUCH);
        due("least of bag -1", bags.least(-1, 0), NO_SUCH);
        due("least of kind 3", bags.least(0, 3), NO_SUCH);
        due("least of kind -1", bags.least(0, -1), NO_SUCH);
        bags.fact(SIZE, 3, 0, 6, 0, 0);
        due("least without a solution", bags.least(0, 0), NONE);
        due("an error comes first", bags.least(0, 3), NO_SUCH);
    }

    /** Promise 11. */
    private static void solutions() {
        BagCounts one = bagsOf(1, fact(SIZE, 0, 3, 3), fact(SIZE, 1, 0, 0), fact(WITHIN, 0, 2), fact(SUM, 3, 0, 1));
        due("one solution", one.solutions(500), 1);
        due("one solution, limit 1", one.solutions(1), 1);
        BagCounts some = bagsOf(2, fact(SIZE, 0, 0, 0), fact(SIZE, 1, 0, 0), fact(SIZE, 2, 0, 0), fact(COUNT, 3, 0, 1, 2));
        due("2 * 3 * 3 solutions", some.solutions(500), 18);
        due("18 of 18", some.solutions(18), 18);
        due("17 of 18", some.solutions(17), 17);
        due("19 of 18", some.solutions(19), 18);
        BagCounts sizes = bagsOf(4, fact(SIZE, 0, 6, 6), fact(WITHIN, 1, 0), fact(SUM, 0, 0, 1), fact(SUM, 2, 0, 1),
                fact(LEAST, 3, 0, 2));
        due("ways of a sum of 6 with three counts to 4", sizes.solutions(500), 19);
        due("limit 0", sizes.solutions(0), BAD_VALUE);
        due("limit 501", sizes.solutions(501), BAD_VALUE);
        due("limit -1", sizes.solutions(-1), BAD_VALUE);
        due("the lowest limit", sizes.solutions(LOWEST), BAD_VALUE);
        due("the highest limit", sizes.solutions(HIGHEST), BAD_VALUE);
        sizes.fact(MORE, 0, 0, 0, 0, 1);
        due("no solution", sizes.solutions(500), 0);
        due("4096 solutions, up to 500", bagsOf(1).solutions(500), 500);
    }

    /** Promise 12. */
    private static void follows() {
        BagCounts bags = bagsOf(4, fact(SUM, 0, 1, 2), fact(COUNT, 1, 0, 1, 2), fact(COUNT, 1, 1, 0, 0), fact(SIZE, 2, 3, 4));
        due("COUNT that holds", follows(bags, COUNT, 0, 0, 1, 4), 1);
        due("COUNT that can hold", follows(bags, COUNT, 0, 0, 1, 1), 2);
        due("COUNT that cannot hold", follows(bags, COUNT, 0, 0, 0, 0), 0);
        due("SIZE that holds", follows(bags, SIZE, 0, 4, 12), 1);
        due("SIZE that can hold", follows(bags, SIZE, 0, 4, 4), 2);
        due("SIZE that cannot hold", follows(bags, SIZE, 0, 0, 3), 0);
        due("SUM that holds", follows(bags, SUM, 0, 2, 1), 1);
        due("SUM that can hold", follows(bags, SUM, 0, 1, 3), 2);
        due("SUM that cannot hold", follows(bags, SUM, 2, 0, 1), 0);
        due("GREATEST that can hold", follows(bags, GREATEST, 0, 1, 2), 2);
        due("GREATEST that holds", follows(bags, GREATEST, 0, 0, 1), 1);
        due("GREATEST that cannot hold", follows(bags, GREATEST, 2, 0, 1), 0);
        due("LEAST that holds", follows(bags, LEAST, 1, 0, 1), 1);
        due("LEAST that can hold", follows(bags, LEAST, 3, 0, 1), 2);
        due("LEAST that cannot hold", follows(bags, LEAST, 0, 0, 2), 0);
        due("WITHIN that holds", follows(bags, WITHIN, 1, 0), 1);
        due("WITHIN that can hold", follows(bags, WITHIN, 0, 3), 2);
        due("WITHIN that cannot hold", follows(bags, WITHIN, 0, 2), 0);
        due("MORE that holds", follows(bags, MORE, 0, 0, 2, 0, 1), 1);
        due("MORE that can hold", follows(bags, MORE, 0, 0, 2, 0, 2), 2);
        due("MORE that cannot hold", follows(bags, MORE, 0, 0, 2, 0, 3), 0);
        due("a wrong form", follows(bags, 7), BAD_VALUE);
        due("a wrong number", follows(bags, WITHIN, 0, 2, 1), BAD_VALUE);
        due("a number that has to be 0", follows(bags, COUNT, 0, 0, 0, 0, 1), BAD_VALUE);
        due("facts as they were", bags.count(0), 4);
        due("changes as they were", bags.count(3), 5);
        bags.fact(SIZE, 0, 0, 3, 0, 0);
        due("without a solution", follows(bags, WITHIN, 1, 0), NONE);
        due("an error comes first", follows(bags, WITHIN, 4, 0), BAD_VALUE);
    }

    /** Promise 13. */
    private static void contradiction() {
        BagCounts bags = bagsOf(4, fact(WITHIN, 0, 1), fact(COUNT, 3, 0, 1, 2), fact(SIZE, 1, 0, 4), fact(MORE, 0, 0, 2, 0, 1));
        due("no contradiction", bags.contradiction(), NONE);
        bags.fact(SIZE, 0, 5, 12, 0, 0);
        due("WITHIN and two sizes", bags.contradiction(), 1 | 4 | 16);
        bags.fact(SIZE, 0, 6, 12, 0, 0);
        due("the earlier one is left out", bags.contradiction(), 1 | 4 | 32);
        bags.fact(MORE, 2, 2, 2, 2, 1);
        due("the latest one alone", bags.contradiction(), 64);
        due("no facts", new BagCounts().contradiction(), NONE);
        due("a fact against MOST", bagsOf(1, fact(WITHIN, 0, 1), fact(COUNT, 0, 0, 2, 3)).contradiction(), 2);
    }

    /** Promise 14. */
    private static void reason() {
        BagCounts bags = bagsOf(4, fact(COUNT, 0, 0, 2, 6), fact(WITHIN, 0, 1), fact(WITHIN, 1, 2), fact(COUNT, 3, 0, 3, 4),
                fact(WITHIN, 0, 2));
        due("C's least x: the direct fact stays", bags.reason(2, 0, 0), 1 | 16);
        due("B's least x", bags.reason(1, 0, 0), 1 | 2);
        due("A's greatest x is MOST", bags.reason(0, 0, 1), 0);
        due("D's least x", bags.reason(3, 0, 0), 8);
        due("a least of 0 has no reason", bags.reason(3, 1, 0), 0);
        due("bag 4", bags.reason(4, 0, 0), NO_SUCH);
        due("bag -1", bags.reason(-1, 0, 0), NO_SUCH);
        due("kind 3", bags.reason(0, 3, 0), NO_SUCH);
        due("kind -1", bags.reason(0, -1, 0), NO_SUCH);
        due("what 2", bags.reason(0, 0, 2), BAD_VALUE);
        due("what -1", bags.reason(0, 0, -1), BAD_VALUE);
        due("all wrong", bags.reason(4, 0, 2), NO_SUCH);
        BagCounts twice = bagsOf(4, fact(COUNT, 0, 0, 1, 4), fact(COUNT, 0, 0, 1, 4));
        due("the earlier of two same ones is left out", twice.reason(0, 0, 0), 2);
        bags.fact(COUNT, 2, 0, 0, 1, 0);
        due("without a solution", bags.reason(2, 0, 0), NONE);
        due("an error comes first", bags.reason(2, 0, 2), BAD_VALUE);
    }

    /** Promise 15. */
    private static void needless() {
        BagCounts bags = bagsOf(4, fact(WITHIN, 0, 1), fact(WITHIN, 1, 2));
        due("none", bags.needless(), 0);
        bags.fact(WITHIN, 0, 2, 0, 0, 0);
        due("what follows from two others", bags.needless(), 4);
        bags.fact(WITHIN, 0, 1, 0, 0, 0);
        due("each of two same ones", bags.needless(), 1 | 4 | 8);
        bags.fact(COUNT, 3, 2, 0, 4, 0);
        due("what always holds", bags.needless(), 1 | 4 | 8 | 16);
        due("no facts", new BagCounts().needless(), 0);
        due("what MOST tells", bagsOf(2, fact(SIZE, 0, 0, 6), fact(SIZE, 0, 0, 5)).needless(), 1);
        due("by sizes", bagsOf(4, fact(SUM, 0, 1, 2), fact(SIZE, 1, 3, 3), fact(SIZE, 2, 4, 5), fact(SIZE, 0, 7, 8)).needless(), 4 | 8);
        due("a sum told twice", bagsOf(6, fact(SUM, 3, 0, 1), fact(SUM, 3, 1, 0), fact(GREATEST, 2, 3, 0)).needless(), 3);
        bags.fact(MORE, 0, 0, 0, 0, 1);
        due("without a solution", bags.needless(), NONE);
    }

    /** Promise 16. */
    private static void put() {
        BagCounts bags = new BagCounts();
        due("put one", bags.put('A'), 1);
        due("put eight", bags.put(packed("x>By+1;B")), 9);
        due("put two", bags.put(packed("<A")), 11);
        due("they come in order", bags.tell(), 2);
        dueFact(bags, 0, fact(MORE, 0, 0, 1, 1, 1));
        dueFact(bags, 1, fact(WITHIN, 1, 0));
        due("put(0)", bags.put(0), BAD_VALUE);
        due("code 32", bags.put(32), BAD_VALUE);
        due("code 33", bags.put(33), 1);
        due("code 126", bags.put(126), 2);
        due("code 127", bags.put(127), BAD_VALUE);
        due("code 255", bags.put(255), BAD_VALUE);
        due("a wrong code ahead", bags.put(32 << 8 | 'A'), BAD_VALUE);
        due("a wrong code behind", bags.put('A' << 8 | 32), BAD_VALUE);
        due("a gap", bags.put('A' << 16 | 'B'), BAD_VALUE);
        due("nothing behind a character", bags.put('A' << 8), BAD_VALUE);
        due("a bit far above", bags.put(1L << 62 | 'A'), BAD_VALUE);
        due("the sign bit", bags.put(Long.MIN_VALUE), BAD_VALUE);
        due("below 0", bags.put(-1), BAD_VALUE);
        due("the sign bit above seven", bags.put(Long.MIN_VALUE | packed("AAAAAAA")), BAD_VALUE);
        due("changes", bags.count(3), 1);
        bags.wipe();
        for (int i = 1; i < 10; i++) {
            due("put to " + 8 * i, bags.put(packed("AAAAAAAA")), 8 * i);
        }
        due("put to 79", bags.put(packed("AAAAAAA")), 79);
        due("put to 81", bags.put(packed("AA")), TOO_MANY);
        due("put a wrong code to 81", bags.put(' ' << 8 | 'A'), BAD_VALUE);
        due("put to 80", bags.put('A'), 80);
        due("put one more", bags.put('A'), TOO_MANY);
        due("put eight more", bags.put(packed("AAAAAAAA")), TOO_MANY);
        due("length", bags.count(2), 80);
        due("fault", bags.fault(), 1);
    }

    /** Promise 17. */
    private static void wipe() {
        BagCounts bags = new BagCounts();
        due("wipe of nothing", bags.wipe(), 0);
        write(bags, "A<B;C<DDD");
        due("wipe", bags.wipe(), 9);
        due("length", bags.count(2), 0);
        due("fault", bags.fault(), 0);
        due("no change", bags.count(3), 0);
        write(bags, "A<B");
        due("fault of a new text", bags.fault(), NONE);
    }

    /** Promise 18: a fault at each place of each form. */
    private static void faultsOfFacts() {
        String[] facts = {"A+B=C", "D|A=B", "C&D=A", "B<D", "#A=3-15", "#D=0", "Ax=1-4", "Dz=6", "Ay>Bz", "Cx>Cx+6", "By>Az-0"};
        for (String fact : facts) {
            dueFault(fact, NONE);
            dueFault(fact + ";", fact.length() + 1);
            dueFault(fact + ";A<B", NONE);
            dueFault(fact + ";;", fact.length() + 1);
            dueFault(fact + "!", fact.length());
            dueFault(fact + "A", fact.length());
            for (int i = 0; i < fact.length(); i++) {
                dueFault(fact.substring(0, i) + "~" + fact.substring(i), i);
                dueFault(fact.substring(0, i) + "E" + fact.substring(i), i);
                dueFault(fact.substring(0, i) + "w", i);
            }
        }
        dueFault("", 0);
        dueFault(";", 0);
        dueFault("A", 1);
        dueFault("A+", 2);
        dueFault("A+B", 3);
        dueFault("A+B=", 4);
        dueFault("A<", 2);
        dueFault("#", 1);
        dueFault("#B", 2);
        dueFault("#B=", 3);
        dueFault("Ax", 2);
        dueFault("Ax>", 3);
        dueFault("Ax>B", 4);
        dueFault("Ax>By+", 6);
        dueFault("Ax>By-", 6);
        dueFault("E<A", 0);
        dueFault("a<A", 0);
        dueFault("Aw=1", 1);
        dueFault("A{=1", 1);
        dueFault("AX=1", 1);
        dueFault("A=B", 1);
        dueFault("A<Bx", 3);
        dueFault("A<<B", 2);
        dueFault("A+B+C=D", 3);
        dueFault("A+B<C", 3);
        dueFault("Ax<By", 2);
        dueFault("Ax+By=Cz", 2);
        dueFault("#Ax=1", 2);
        dueFault("#A>1", 2);
        dueFault("A<B,C<D", 3);
        dueFault("A<B;C<D;E", 8);
    }

    /** Promise 18: numbers and digits. */
    private static void faultsOfNumbers() {
        for (int number = 0; number <= 18; number++) {
            dueFault("Ax=" + number, NONE);
            dueFault("#A=" + number + "-18", NONE);
            dueFault("#A=0-" + number, NONE);
            dueFault("#A=0-" + number + "-", number < 10 ? 6 : 7);
        }
        dueFault("#A=19", 4);
        dueFault("#A=20", 4);
        dueFault("#A=99", 4);
        dueFault("#A=180", 5);
        dueFault("#A=10-", 6);
        dueFault("#A=1-", 5);
        dueFault("#A=00", 4);
        dueFault("#A=01", 4);
        dueFault("#A=1-05", 6);
        dueFault("#A=1-19", 6);
        dueFault("#A=1-20", 6);
        dueFault("#A=1-180", 7);
        dueFault("#A=-1", 3);
        dueFault("#A=1--2", 5);
        dueFault("#A=1+2", 4);
        dueFault("#A=5-3", NONE);
        dueFault("#A=5-5", NONE);
        dueFault("Ax=1-19;A<B", 6);
        for (int digit = 0; digit <= 6; digit++) {
            dueFault("Ax>By+" + digit, NONE);
            dueFault("Ax>By-" + digit, NONE);
        }
        dueFault("Ax>By+7", 6);
        dueFault("Ax>By-7", 6);
        dueFault("Ax>By+10", 7);
        dueFault("Ax>By+00", 7);
        dueFault("Ax>By1", 5);
        dueFault("Ax>By+-1", 6);
        dueFault("Ax>By=1", 5);
        dueFault("Ax>3", 3);
    }

    /** Promise 19. */
    private static void tell() {
        BagCounts bags = new BagCounts();
        due("tell of nothing", bags.tell(), BAD_TEXT);
        write(bags, "B+C=A;A|D=B;C&D=B;A<D;#C=3-15;#D=7;By=1-4;Cz=0;Ax>Bz");
        due("tell", bags.tell(), 9);
        dueFact(bags, 0, fact(SUM, 0, 1, 2));
        dueFact(bags, 1, fact(GREATEST, 1, 0, 3));
        dueFact(bags, 2, fact(LEAST, 1, 2, 3));
        dueFact(bags, 3, fact(WITHIN, 0, 3));
        dueFact(bags, 4, fact(SIZE, 2, 3, 15));
        dueFact(bags, 5, fact(SIZE, 3, 7, 7));
        dueFact(bags, 6, fact(COUNT, 1, 1, 1, 4));
        dueFact(bags, 7, fact(COUNT, 2, 2, 0, 0));
        dueFact(bags, 8, fact(MORE, 0, 0, 1, 2, 0));
        due("the pad is empty", bags.count(2), 0);
        due("one change", bags.count(3), 1);
        write(bags, "Cy>Dx-6;Dx>Cy+5");
        due("tell up to ten", bags.tell(), 1);
        dueFact(bags, 9, fact(MORE, 2, 1, 3, 0, -6));
        due("the pad is empty again", bags.count(2), 0);
        write(bags, "A<B");
        due("tell none, there are ten", bags.tell(), 0);
        due("three changes", bags.count(3), 3);
        BagCounts other = new BagCounts();
        write(other, "A<B;Ax=7;B<C");
        due("tell up to a count above 6", other.tell(), 1);
        write(other, "Ax=5-4;B<C");
        due("tell up to a range that goes down", other.tell(), 0);
        write(other, "#B=9-8");
        due("tell none", other.tell(), 0);
        write(other, "Bz=6;Ax=0-7;B<C");
        due("tell up to a range above 6", other.tell(), 1);
        due("facts", other.count(0), 2);
        due("changes", other.count(3), 4);
        write(other, "A<B;C<");
        due("tell of a fault", other.tell(), BAD_TEXT);
        due("the pad stays", other.count(2), 6);
        due("facts stay", other.count(0), 2);
        due("undo of a told text", other.undo(), 3);
        due("facts then", other.count(0), 1);
        due("the pad is not undone", other.count(2), 6);
        BagCounts full = new BagCounts();
        write(full, "A<B;A<B;A<B;A<B;A<B;A<B;A<B;A<B;A<B;A<B;A<B;A<B;A<B;A<B;A<B;A<B;A<B;A<B;A<B;A<B");
        due("the longest row of facts", full.tell(), 10);
        due("one change for ten", full.undo(), 0);
        due("no facts", full.count(0), 0);
    }

    /** Promise 20. */
    private static void undo() {
        BagCounts bags = new BagCounts();
        due("nothing to undo", bags.undo(), NOT_POSSIBLE);
        bags.fact(WITHIN, 0, 1, 0, 0, 0);
        bags.most(6);
        bags.fact(COUNT, 2, 2, 1, 2, 0);
        bags.drop(0);
        due("changes", bags.count(3), 4);
        due("undo a drop", bags.undo(), 3);
        dueFact(bags, 0, fact(WITHIN, 0, 1));
        dueFact(bags, 1, fact(COUNT, 2, 2, 1, 2));
        due("undo a fact", bags.undo(), 2);
        due("facts", bags.count(0), 1);
        due("undo most", bags.undo(), 1);
        due("MOST", bags.count(1), 4);
        due("undo the first fact", bags.undo(), 0);
        due("no facts", bags.count(0), 0);
        due("no more", bags.undo(), NOT_POSSIBLE);
        for (int i = 1; i <= 6; i++) {
            bags.most(i);
            due("changes of " + i, bags.count(3), i);
        }
        bags.most(3);
        due("six at the most", bags.count(3), 6);
        bags.most(3);
        due("a change that changes nothing counts", bags.count(3), 6);
        int[] due = {3, 6, 5, 4, 3, 2};
        for (int i = 0; i < 6; i++) {
            due("undo to", bags.undo(), 5 - i);
            due("MOST then", bags.count(1), due[i]);
        }
        due("the oldest are gone", bags.undo(), NOT_POSSIBLE);
        bags.save(0);
        write(bags, "A<");
        bags.most(1);
        bags.undo();
        due("slots are not undone", bags.restore(0), 0);
        due("the pad is not undone", bags.count(2), 2);
    }

    /** Promise 21. */
    private static void save() {
        BagCounts bags = bagsOf(5, fact(WITHIN, 0, 1));
        due("save(-1)", bags.save(-1), BAD_VALUE);
        due("save(2)", bags.save(2), BAD_VALUE);
        due("save of the highest", bags.save(HIGHEST), BAD_VALUE);
        due("save of the lowest", bags.save(LOWEST), BAD_VALUE);
        due("save(0)", bags.save(0), 1);
        due("not a change", bags.count(3), 2);
        bags.fact(WITHIN, 1, 2, 0, 0, 0);
        due("save(1)", bags.save(1), 2);
        bags.most(2);
        due("restore(0)", bags.restore(0), 1);
        due("restore(1)", bags.restore(1), 2);
        due("MOST", bags.count(1), 5);
        bags.drop(0);
        bags.drop(0);
        due("save(1) over what was there", bags.save(1), 0);
        due("restore(0) once more", bags.restore(0), 1);
        due("restore(1) once more", bags.restore(1), 0);
    }

    /** Promise 22. */
    private static void restore() {
        BagCounts bags = bagsOf(5, fact(WITHIN, 0, 1));
        due("restore(-1)", bags.restore(-1), BAD_VALUE);
        due("restore(2)", bags.restore(2), BAD_VALUE);
        due("restore of nothing", bags.restore(1), NOT_POSSIBLE);
        bags.save(1);
        due("restore of the other", bags.restore(0), NOT_POSSIBLE);
        bags.fact(MORE, 0, 1, 2, 0, -2);
        bags.most(6);
        write(bags, "A<");
        due("changes", bags.count(3), 4);
        due("restore(1)", bags.restore(1), 1);
        due("MOST", bags.count(1), 5);
        dueFact(bags, 0, fact(WITHIN, 0, 1));
        due("the pad stays", bags.count(2), 2);
        due("restore is a change", bags.count(3), 5);
        due("undo of restore", bags.undo(), 4);
        due("MOST again", bags.count(1), 6);
        due("facts again", bags.count(0), 2);
        dueFact(bags, 1, fact(MORE, 0, 1, 2, 0, -2));
        due("the slot keeps it", bags.restore(1), 1);
    }

    private static void errorsChangeNothing() {
        BagCounts bags = bagsOf(5, fact(WITHIN, 0, 1));
        write(bags, "A<");
        bags.most(0);
        bags.fact(9, 0, 0, 0, 0, 0);
        bags.drop(1);
        bags.tell();
        bags.put(0);
        bags.save(2);
        bags.restore(0);
        bags.isPossible();
        bags.bound(0, 0, 0);
        bags.sizeOf(0, 0);
        bags.least(3, 2);
        bags.solutions(500);
        bags.follows(MORE, 0, 0, 0, 0, 1);
        bags.contradiction();
        bags.reason(0, 0, 0);
        bags.needless();
        bags.fault();
        due("facts", bags.count(0), 1);
        due("MOST", bags.count(1), 5);
        due("length", bags.count(2), 2);
        due("changes", bags.count(3), 2);
        dueFact(bags, 0, fact(WITHIN, 0, 1));
    }

    /** Facts that made plain searches go through very many counts. */
    private static void hardFacts() {
        BagCounts sizes = bagsOf(6, fact(LEAST, 0, 1, 1), fact(GREATEST, 2, 2, 0), fact(SIZE, 1, 9, 11), fact(GREATEST, 3, 3, 0),
                fact(MORE, 3, 0, 3, 0, -3), fact(COUNT, 3, 2, 0, 6), fact(SIZE, 3, 6, 8), fact(GREATEST, 2, 0, 2),
                fact(WITHIN, 0, 3), fact(MORE, 2, 0, 2, 2, -5));
        BagCounts sums = bagsOf(6, fact(SUM, 3, 0, 1), fact(SUM, 3, 1, 0), fact(MORE, 3, 0, 0, 1, -4), fact(MORE, 0, 1, 2, 0, -2),
                fact(GREATEST, 2, 2, 2), fact(WITHIN, 2, 3), fact(MORE, 1, 0, 3, 1, -2), fact(MORE, 1, 0, 1, 0, -1));
        for (int i = 0; i < 20; i++) {
            due("isPossible of hard sizes", sizes.isPossible(), 0);
            due("contradiction of hard sizes", sizes.contradiction(), 1 | 4 | 64 | 256);
            due("follows of hard sizes", follows(sizes, SUM, 0, 1, 2), NONE);
            due("needless of hard sums", sums.needless(), 1 | 2 | 4 | 16 | 128);
        }
    }

    /** Facts of which what each count can be by itself does not tell the answer. */
    private static void factsThatRangesDoNotTell() {
        due("a size of 2", bagsOf(1, fact(LEAST, 1, 1, 2), fact(SIZE, 3, 0, 2), fact(GREATEST, 2, 3, 0), fact(COUNT, 1, 0, 0, 5),
                fact(SIZE, 0, 2, 5), fact(WITHIN, 1, 2), fact(LEAST, 1, 0, 2)).sizeOf(2, 0), 2);
        due("275 solutions", bagsOf(2, fact(COUNT, 3, 1, 1, 3), fact(SIZE, 1, 2, 5), fact(MORE, 0, 2, 3, 2, 1), fact(WITHIN, 1, 3),
                fact(SIZE, 2, 2, 5), fact(LEAST, 2, 0, 2), fact(SIZE, 1, 2, 3), fact(LEAST, 2, 0, 1)).solutions(460), 275);
        due("no bound", bagsOf(2, fact(MORE, 3, 2, 3, 2, -1), fact(SUM, 1, 1, 1), fact(COUNT, 1, 0, 1, 1), fact(WITHIN, 3, 0),
                fact(MORE, 0, 1, 3, 1, 1), fact(GREATEST, 0, 2, 0)).bound(2, 2, 0), NONE);
        due("no greatest size", bagsOf(1, fact(SIZE, 1, 1, 4), fact(SUM, 1, 2, 0), fact(LEAST, 0, 1, 2), fact(MORE, 1, 0, 1, 1, -1),
                fact(MORE, 1, 0, 2, 0, 0)).sizeOf(1, 1), NONE);
        due("no least size", bagsOf(6, fact(SUM, 3, 2, 0), fact(MORE, 1, 1, 2, 0, 0), fact(SIZE, 1, 6, 9), fact(LEAST, 3, 1, 0),
                fact(GREATEST, 3, 0, 0), fact(LEAST, 3, 2, 1), fact(SUM, 1, 0, 2), fact(WITHIN, 3, 2), fact(GREATEST, 0, 2, 0))
                .sizeOf(3, 0), NONE);
        due("a least count of 3", bagsOf(5, fact(MORE, 1, 1, 3, 0, 0), fact(SUM, 2, 1, 1), fact(GREATEST, 0, 3, 2),
                fact(COUNT, 0, 1, 1, 3), fact(WITHIN, 3, 0), fact(SUM, 3, 1, 2), fact(WITHIN, 2, 3), fact(WITHIN, 3, 0))
                .least(0, 1), 3);
    }
}
