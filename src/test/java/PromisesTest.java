import java.util.function.Consumer;

/** Each sentence of the promises that names a boundary case: ranges, what is full or empty, what is refused. */
public final class PromisesTest extends Checks {
    public static void main(String[] arguments) {
        changes();
        whatThereIs();
        whatFollows();
        setsOfFacts();
        texts();
        undoing();
        saving();
        sentence("LANGUAGE 7: No call may ever throw, for any arguments in any state", PromisesTest::noCallThrows);
        finish("PromisesTest");
    }

    private static void changes() {
        sentence("Promise 1: bags of which nothing is known", PromisesTest::nothingIsKnownAtFirst);
        sentence("Promise 2: most: 1 to 6; BAD_VALUE if most is out of range", PromisesTest::mostIsOneToSix);
        sentence("Promise 2: Returns the previous value", PromisesTest::mostReturnsThePreviousValue);
        sentence("Promise 3: form: COUNT to MORE; BAD_VALUE if an argument is out of range", PromisesTest::factOutOfRange);
        sentence("Promise 3: Returns its number", PromisesTest::factReturnsItsNumber);
        sentence("Promise 3: TOO_MANY if there are 10 facts", PromisesTest::tooManyIfThereAreTenFacts);
        sentence("Promise 4: Returns how many facts there are then", PromisesTest::dropReturnsHowManyThereAreThen);
        sentence("Promise 4: NO_SUCH if there is no such fact", PromisesTest::dropOfNoSuchFact);
    }

    private static void whatThereIs() {
        sentence("Promise 5: what: 0 its form, 1 to 5 its numbers a to e", PromisesTest::ofFactIsZeroToFive);
        sentence("Promise 5: it is told with 100 more", PromisesTest::eIsToldWithHundredMore);
        sentence("Promise 5: NO_SUCH if there is no such fact", PromisesTest::ofNoSuchFact);
        sentence("Promise 6: what: 0 facts, 1 MOST, 2 the length of the pad, 3 changes", PromisesTest::countIsZeroToThree);
        sentence("Promise 6: each number when it is empty and full", PromisesTest::countOfEmptyAndFull);
    }

    private static void whatFollows() {
        sentence("Promise 7: Returns 1 or 0", PromisesTest::isPossibleIsOneOrZero);
        sentence("Promise 8: what: 0 the least, 1 the greatest", PromisesTest::boundIsTheLeastOrTheGreatest);
        sentence("Promise 8: NONE if there is no solution", PromisesTest::noBoundWithoutSolution);
        sentence("Promise 9: what: 0 the least, 1 the greatest", PromisesTest::sizeIsTheLeastOrTheGreatest);
        sentence("Promise 9: NONE if there is no solution", PromisesTest::noSizeWithoutSolution);
        sentence("Promise 10: NO_SUCH if there is no such bag or kind; NONE if there is no solution", PromisesTest::leastOfNoSuch);
        sentence("Promise 11: limit: 1 to 500", PromisesTest::limitIsOneToFiveHundred);
        sentence("Promise 11: the limit if there are more", PromisesTest::theLimitIfThereAreMore);
        sentence("Promise 12: 1 in all solutions, 0 in none, 2 in some, but not in all", PromisesTest::followsInAllNoneOrSome);
        sentence("Promise 12: one more fact, also behind ten", PromisesTest::followsWithTenFacts);
        sentence("Promise 12: NONE if there is no solution", PromisesTest::followsWithoutSolution);
    }

    private static void setsOfFacts() {
        sentence("Promise 13: all facts at first; then, in ascending order, each one is left out", PromisesTest::leftOutInOrder);
        sentence("Promise 13: NONE if there is a solution", PromisesTest::noContradictionWithSolution);
        sentence("Promise 14: in ascending order, each one is left out for good", PromisesTest::reasonLeavesOutInOrder);
        sentence("Promise 14: NO_SUCH and BAD_VALUE as for bound()", PromisesTest::reasonIsRefusedAsBound);
        sentence("Promise 14: a bound without a reason", PromisesTest::aBoundWithoutReason);
        sentence("Promise 15: each of which follows from all others", PromisesTest::needlessFollowsFromAllOthers);
        sentence("Promise 15: NONE if there is no solution", PromisesTest::nothingNeedlessWithoutSolution);
    }

    private static void texts() {
        sentence("Promise 16: its lowest 8 bits are the last character", PromisesTest::theLowestBitsAreTheLastCharacter);
        sentence("Promise 16: characters: 1 to 8 characters", PromisesTest::oneToEightCharacters);
        sentence("Promise 16: BAD_VALUE if a code is not 33 to 126", PromisesTest::codesAre33To126);
        sentence("Promise 16: everything above 8 bits that are 0 has to be 0", PromisesTest::everythingAboveZeroIsZero);
        sentence("Promise 16: TOO_MANY if the pad would be longer than 80", PromisesTest::longerThanEighty);
        sentence("Promise 17: Empties the pad, and returns the length that it had", PromisesTest::wipeReturnsTheLength);
        sentence("Promise 18: the fault of the pad, NONE if there is none", PromisesTest::faultOrNone);
        sentence("Promise 19: up to the first one of which fact() returns an error", PromisesTest::toldUpToTheFirstError);
        sentence("Promise 19: and empties the pad", PromisesTest::tellEmptiesThePad);
        sentence("Promise 19: a change (one, with all of them; also if none is told)", PromisesTest::tellIsOneChange);
        sentence("Promise 19: BAD_TEXT if the pad has a fault (then it stays)", PromisesTest::badTextStays);
    }

    private static void undoing() {
        sentence("Promise 20: everything is as it was before it", PromisesTest::everythingIsAsItWas);
        sentence("Promise 20: except the pad, the slots and the history", PromisesTest::undoLeavesThePadAndTheSlots);
        sentence("Promise 20: A history of at most 6 states is kept", PromisesTest::atMostSixStates);
        sentence("Promise 20: when one more is recorded, the oldest one is dropped", PromisesTest::theOldestIsDropped);
        sentence("Promise 20: (also if nothing is different then)", PromisesTest::recordedIfNothingIsDifferent);
        sentence("Promise 20: each method that is a change, and returns no error", PromisesTest::onlyChangesAreRecorded);
        sentence("Promise 20: A fact of a text records nothing by itself", PromisesTest::aFactOfATextRecordsNothing);
        sentence("Promise 20: NOT_POSSIBLE if there is none", PromisesTest::nothingToUndo);
    }

    private static void saving() {
        sentence("Promise 21: slot: 0 or 1; BAD_VALUE if there is no such slot", PromisesTest::slotsToSaveIn);
        sentence("Promise 21: overwrites what was saved there", PromisesTest::saveOverwrites);
        sentence("Promise 21: Saves everything except the pad, the history and the slots", PromisesTest::saveIsNoChange);
        sentence("Promise 22: slot: 0 or 1; BAD_VALUE if there is no such slot", PromisesTest::slotsToRestore);
        sentence("Promise 22: NOT_POSSIBLE if nothing was saved in it", PromisesTest::nothingWasSaved);
        sentence("Promise 22: Restores what was saved last in a slot, which keeps it", PromisesTest::theSlotKeepsIt);
        sentence("Promise 22: This is a change", PromisesTest::restoreIsAChange);
    }

    private static BagCounts with(Scene scene, Consumer<BagCounts> calls) {
        BagCounts bags = scene.make();
        calls.accept(bags);
        return bags;
    }

    /** The calls leave all as it is in the scene. */
    private static void dueUnchanged(Scene scene, String what, Consumer<BagCounts> calls) {
        dueAlike(what + " with " + scene.name, () -> with(scene, calls), scene::make);
    }

    private static int factsIn(Scene scene) {
        return scene.make().count(0);
    }

    // ---- promises 1 to 4

    private static void nothingIsKnownAtFirst() {
        BagCounts bags = new BagCounts();
        due("facts", bags.count(0), 0);
        due("MOST", bags.count(1), 4);
        due("length of the pad", bags.count(2), 0);
        due("changes", bags.count(3), 0);
        due("fact 0", bags.ofFact(0, 0), NO_SUCH);
        due("isPossible", bags.isPossible(), 1);
        due("solutions", bags.solutions(500), 500);
        due("needless", bags.needless(), 0);
        due("contradiction", bags.contradiction(), NONE);
        due("undo", bags.undo(), NOT_POSSIBLE);
        due("restore(0)", bags.restore(0), NOT_POSSIBLE);
        due("restore(1)", bags.restore(1), NOT_POSSIBLE);
        due("fault", bags.fault(), 0);
        for (int i = 0; i < 12; i++) {
            due("least count", bags.bound(i / 3, i % 3, 0), 0);
            due("greatest count", bags.bound(i / 3, i % 3, 1), 4);
            due("count of the least solution", bags.least(i / 3, i % 3), 0);
        }
        BagCounts other = new BagCounts();
        other.most(6);
        other.fact(COUNT, 0, 0, 1, 1, 0);
        other.put('A');
        other.save(0);
        due("another object's facts", bags.count(0), 0);
        due("another object's MOST", new BagCounts().count(1), 4);
        due("another object's slot", bags.restore(0), NOT_POSSIBLE);
    }

    private static void mostIsOneToSix() {
        for (int most = 1; most <= 6; most++) {
            BagCounts bags = new BagCounts();
            due("most(" + most + ")", bags.most(most), 4);
            due("MOST", bags.count(1), most);
            due("changes", bags.count(3), 1);
        }
        for (int most : new int[] {0, 7, -1, LOWEST, HIGHEST, 257}) {
            dueRefused("most(" + most + ")", BAD_VALUE, x -> x.most(most));
        }
    }

    private static void mostReturnsThePreviousValue() {
        BagCounts bags = new BagCounts();
        int previous = 4;
        for (int i = 0; i < 36; i++) {
            int most = 1 + (i + i / 6) % 6;
            due("most(" + most + ")", bags.most(most), previous);
            previous = most;
        }
        due("the same again", bags.most(previous), previous);
        due("a refused one between", bags.most(7), BAD_VALUE);
        due("the previous value is still the same", bags.most(1), previous);
    }

    private static void factOutOfRange() {
        int[][] lows = {{0, 0, 0, 0, 0, 0}, {1, 0, 0, 0, 0, 0}, {2, 0, 0, 0, 0, 0}, {3, 0, 0, 0, 0, 0},
            {4, 0, 0, 0, 0, 0}, {5, 0, 0, 0, 0, 0}, {6, 0, 0, 0, 0, -6}};
        int[][] highs = {{0, 3, 2, 6, 6, 0}, {1, 3, 18, 18, 0, 0}, {2, 3, 3, 3, 0, 0}, {3, 3, 3, 3, 0, 0},
            {4, 3, 3, 3, 0, 0}, {5, 3, 3, 0, 0, 0}, {6, 3, 2, 3, 2, 6}};
        for (int form = 0; form < 7; form++) {
            due("the lowest of form " + form, tell(new BagCounts(), lows[form]), 0);
            due("the highest of form " + form, tell(new BagCounts(), highs[form]), 0);
            for (int place = 1; place < 6; place++) {
                int[] below = lows[form].clone();
                below[place]--;
                dueRefused("form " + form + ", too small at " + place, BAD_VALUE, x -> tell(x, below));
                int[] above = highs[form].clone();
                above[place]++;
                dueRefused("form " + form + ", too large at " + place, BAD_VALUE, x -> tell(x, above));
            }
        }
        dueRefused("form -1", BAD_VALUE, x -> x.fact(-1, 0, 0, 0, 0, 0));
        dueRefused("form 7", BAD_VALUE, x -> x.fact(7, 0, 0, 0, 0, 0));
    }

    private static void factReturnsItsNumber() {
        BagCounts bags = new BagCounts();
        for (int i = 0; i < 10; i++) {
            due("fact " + i, bags.fact(MORE, i % 4, i % 3, 3 - i % 4, 2 - i % 3, i - 4), i);
            due("it is there", bags.ofFact(i, 5), 96 + i);
            due("it is a change", bags.count(3), Math.min(6, i + 1));
        }
        bags.drop(4);
        due("the number of one behind nine", bags.fact(SIZE, 0, 0, 1, 0, 0), 9);
    }

    private static void tooManyIfThereAreTenFacts() {
        BagCounts nine = with(FULL, x -> x.drop(0));
        due("the tenth fact", nine.fact(SUM, 3, 3, 3, 0, 0), 9);
        due("the eleventh fact", nine.fact(SUM, 3, 3, 3, 0, 0), TOO_MANY);
        for (int form = 0; form < 7; form++) {
            int[] n = fact(form);
            dueRefused(FULL, "an eleventh fact of form " + form, TOO_MANY, x -> tell(x, n));
        }
        BagCounts restored = with(FULL, x -> {
            x.save(1);
            x.drop(3);
            x.restore(1);
        });
        due("an eleventh fact behind restore", restored.fact(SUM, 3, 3, 3, 0, 0), TOO_MANY);
        restored.undo();
        due("a tenth fact behind undo", restored.fact(SUM, 3, 3, 3, 0, 0), 9);
    }

    private static void dropReturnsHowManyThereAreThen() {
        BagCounts bags = FULL.make();
        for (int facts = 10; facts > 0; facts--) {
            int last = bags.ofFact(facts - 1, 0);
            int dropped = facts % 2 == 0 ? 0 : facts - 1;
            due("drop(" + dropped + ")", bags.drop(dropped), facts - 1);
            due("facts", bags.count(0), facts - 1);
            due("behind the last one", bags.ofFact(facts - 1, 0), NO_SUCH);
            if (dropped == 0 && facts > 1) {
                due("the last one has moved up", bags.ofFact(facts - 2, 0), last);
            }
        }
        due("drop(0) of none", bags.drop(0), NO_SUCH);
        due("all are dropped", bags.solutions(500), 500);
    }

    private static void dropOfNoSuchFact() {
        for (Scene scene : SCENES) {
            int facts = factsIn(scene);
            for (int fact : new int[] {-1, facts, facts + 1, 10, 11, LOWEST, HIGHEST, 256}) {
                dueRefused(scene, "drop(" + fact + ") of " + facts, NO_SUCH, x -> x.drop(fact));
            }
            if (facts > 0) {
                due("drop of the last one", scene.make().drop(facts - 1), facts - 1);
                due("drop of the first one", scene.make().drop(0), facts - 1);
            }
        }
    }

    // ---- promises 5 and 6

    private static void ofFactIsZeroToFive() {
        int[][] facts = {fact(COUNT, 3, 2, 5, 6), fact(SIZE, 2, 17, 18), fact(SUM, 1, 2, 3), fact(GREATEST, 3, 2, 1),
            fact(LEAST, 2, 3, 1), fact(WITHIN, 3, 1), fact(MORE, 3, 2, 1, 1, -5)};
        BagCounts bags = bagsOf(4, facts);
        for (int i = 0; i < 7; i++) {
            dueFact(bags, i, facts[i]);
        }
        for (int what : new int[] {-1, 6, 7, LOWEST, HIGHEST}) {
            dueRefused(FULL, "ofFact(0, " + what + ")", BAD_VALUE, x -> x.ofFact(0, what));
            dueRefused(FULL, "ofFact(9, " + what + ")", BAD_VALUE, x -> x.ofFact(9, what));
            dueRefused(EMPTY, "ofFact(0, " + what + ")", NO_SUCH, x -> x.ofFact(0, what));
        }
    }

    private static void eIsToldWithHundredMore() {
        for (int e = -6; e <= 6; e++) {
            due("e is " + e, bagsOf(4, fact(MORE, 0, 0, 0, 0, e)).ofFact(0, 5), 100 + e);
        }
        for (int form = 0; form < 6; form++) {
            due("e of form " + form, bagsOf(4, fact(form)).ofFact(0, 5), 100);
        }
        BagCounts bags = bagsOf(4, fact(MORE, 0, 0, 0, 0, -6));
        for (int what = 1; what < 5; what++) {
            due("a to d are told as they are", bags.ofFact(0, what), 0);
        }
    }

    private static void ofNoSuchFact() {
        for (Scene scene : SCENES) {
            int facts = factsIn(scene);
            for (int fact : new int[] {-1, facts, facts + 1, 10, 11, LOWEST, HIGHEST}) {
                dueRefused(scene, "ofFact(" + fact + ", 0) of " + facts, NO_SUCH, x -> x.ofFact(fact, 0));
                dueRefused(scene, "ofFact(" + fact + ", 5) of " + facts, NO_SUCH, x -> x.ofFact(fact, 5));
            }
            if (facts > 0) {
                due("the last one's form is none that is refused", Math.min(scene.make().ofFact(facts - 1, 0), 0), 0);
            }
        }
    }

    private static void countIsZeroToThree() {
        BagCounts bags = SOME.make();
        due("facts", bags.count(0), 3);
        due("MOST", bags.count(1), 5);
        due("length of the pad", bags.count(2), 8);
        due("changes", bags.count(3), 4);
        for (int what : new int[] {-1, 4, 5, LOWEST, HIGHEST}) {
            dueRefused("count(" + what + ")", BAD_VALUE, x -> x.count(what));
        }
    }

    private static void countOfEmptyAndFull() {
        BagCounts empty = new BagCounts();
        due("no facts", empty.count(0), 0);
        due("an empty pad", empty.count(2), 0);
        due("nothing to undo", empty.count(3), 0);
        BagCounts full = FULL.make();
        due("ten facts", full.count(0), 10);
        due("the highest MOST", full.count(1), 6);
        due("a full pad", full.count(2), 80);
        due("a full history", full.count(3), 6);
        due("the lowest MOST", bagsOf(1).count(1), 1);
    }

    // ---- promises 7 to 12

    private static void isPossibleIsOneOrZero() {
        due("no facts", new BagCounts().isPossible(), 1);
        due("facts that need all there is", bagsOf(1, fact(SIZE, 0, 3, 3), fact(SIZE, 1, 3, 3), fact(WITHIN, 0, 2),
                fact(SIZE, 3, 0, 0)).isPossible(), 1);
        due("one thing too many", bagsOf(1, fact(SIZE, 0, 4, 4)).isPossible(), 0);
        due("ten facts", FULL.make().isPossible(), 1);
        due("a contradiction", TORN.make().isPossible(), 0);
        dueUnchanged(FULL, "isPossible", BagCounts::isPossible);
        dueUnchanged(TORN, "isPossible", BagCounts::isPossible);
    }

    private static void boundIsTheLeastOrTheGreatest() {
        for (int i = 0; i < 12; i++) {
            int bag = i / 3;
            int kind = i % 3;
            BagCounts bags = bagsOf(6, fact(COUNT, bag, kind, 2, 5));
            due("the least", bags.bound(bag, kind, 0), 2);
            due("the greatest", bags.bound(bag, kind, 1), 5);
            for (int what : new int[] {-1, 2, LOWEST, HIGHEST}) {
                dueRefused("bound(" + bag + ", " + kind + ", " + what + ")", BAD_VALUE, x -> x.bound(bag, kind, what));
            }
        }
        dueUnchanged(FULL, "bound", x -> x.bound(3, 2, 1));
    }

    private static void noBoundWithoutSolution() {
        for (int i = 0; i < 24; i++) {
            int bag = i / 6;
            int kind = i / 2 % 3;
            due("bound", TORN.make().bound(bag, kind, i % 2), NONE);
            due("bound of what is known to be 0", bagsOf(4, fact(COUNT, bag, kind, 0, 0)).bound(bag, kind, i % 2), 0);
        }
    }

    private static void sizeIsTheLeastOrTheGreatest() {
        for (int i = 0; i < 4; i++) {
            int bag = i;
            BagCounts bags = bagsOf(6, fact(SIZE, bag, 5, 17), fact(COUNT, bag, 1, 6, 6));
            due("the least", bags.sizeOf(bag, 0), 6);
            due("the greatest", bags.sizeOf(bag, 1), 17);
            due("an empty bag's least", bagsOf(6, fact(SIZE, bag, 0, 0)).sizeOf(bag, 0), 0);
            due("an empty bag's greatest", bagsOf(6, fact(SIZE, bag, 0, 0)).sizeOf(bag, 1), 0);
            due("a full bag's least", bagsOf(6, fact(SIZE, bag, 18, 18)).sizeOf(bag, 0), 18);
            due("a full bag's greatest", bagsOf(6, fact(SIZE, bag, 18, 18)).sizeOf(bag, 1), 18);
            for (int what : new int[] {-1, 2, LOWEST, HIGHEST}) {
                dueRefused("sizeOf(" + bag + ", " + what + ")", BAD_VALUE, x -> x.sizeOf(bag, what));
            }
        }
        dueUnchanged(FULL, "sizeOf", x -> x.sizeOf(3, 1));
    }

    private static void noSizeWithoutSolution() {
        for (int bag = 0; bag < 4; bag++) {
            due("the least", TORN.make().sizeOf(bag, 0), NONE);
            due("the greatest", TORN.make().sizeOf(bag, 1), NONE);
        }
    }

    private static void leastOfNoSuch() {
        for (int i = 0; i < 12; i++) {
            due("least with no facts", new BagCounts().least(i / 3, i % 3), 0);
            due("least with all there is", bagsOf(6, fact(SIZE, i / 3, 18, 18)).least(i / 3, i % 3), 6);
            due("least without a solution", TORN.make().least(i / 3, i % 3), NONE);
        }
        for (int wrong : new int[] {-1, 4, LOWEST, HIGHEST}) {
            dueRefused("least(" + wrong + ", 0)", NO_SUCH, x -> x.least(wrong, 0));
            dueRefused("least(0, " + wrong + ")", NO_SUCH, x -> x.least(0, wrong));
        }
        dueRefused("least(3, 3)", NO_SUCH, x -> x.least(3, 3));
        dueUnchanged(FULL, "least", x -> x.least(3, 2));
    }

    private static void limitIsOneToFiveHundred() {
        due("limit 1", new BagCounts().solutions(1), 1);
        due("limit 500", new BagCounts().solutions(500), 500);
        for (int limit : new int[] {0, 501, -1, LOWEST, HIGHEST}) {
            dueRefused("solutions(" + limit + ")", BAD_VALUE, x -> x.solutions(limit));
        }
        dueUnchanged(FULL, "solutions", x -> x.solutions(500));
    }

    private static void theLimitIfThereAreMore() {
        BagCounts even = bagsOf(4, fact(SIZE, 0, 0, 0), fact(SIZE, 1, 0, 0), fact(COUNT, 2, 0, 0, 0), fact(COUNT, 2, 1, 0, 0),
                fact(COUNT, 2, 2, 0, 3));
        for (int limit = 1; limit <= 400; limit++) {
            due("500 solutions up to " + limit, even.solutions(limit), limit);
        }
        due("500 solutions up to 499", even.solutions(499), 499);
        due("500 solutions up to 500", even.solutions(500), 500);
        even.drop(4);
        due("625 solutions up to 500", even.solutions(500), 500);
        BagCounts fewer = bagsOf(2, fact(SIZE, 0, 0, 0), fact(SIZE, 1, 0, 0), fact(COUNT, 2, 0, 0, 1));
        due("486 solutions up to 485", fewer.solutions(485), 485);
        due("486 solutions up to 486", fewer.solutions(486), 486);
        due("486 solutions up to 487", fewer.solutions(487), 486);
        due("486 solutions up to 500", fewer.solutions(500), 486);
        BagCounts one = bagsOf(4, fact(SIZE, 0, 0, 0), fact(SIZE, 1, 12, 12), fact(WITHIN, 1, 2), fact(SUM, 3, 0, 1));
        due("one solution up to 1", one.solutions(1), 1);
        due("one solution up to 2", one.solutions(2), 1);
        due("one solution up to 500", one.solutions(500), 1);
        due("no solution up to 1", TORN.make().solutions(1), 0);
        due("no solution up to 500", TORN.make().solutions(500), 0);
    }

    private static void followsInAllNoneOrSome() {
        BagCounts two = bagsOf(1, fact(SIZE, 0, 0, 0), fact(SIZE, 1, 3, 3), fact(WITHIN, 1, 2), fact(COUNT, 3, 0, 1, 1),
                fact(COUNT, 3, 1, 1, 1));
        due("two solutions", two.solutions(500), 2);
        due("in both", follows(two, COUNT, 3, 2, 0, 1), 1);
        due("in one of two", follows(two, COUNT, 3, 2, 1, 1), 2);
        due("in the other one of two", follows(two, COUNT, 3, 2, 0, 0), 2);
        due("in none of two", follows(two, COUNT, 3, 2, 2, 6), 0);
        two.fact(SIZE, 3, 3, 3, 0, 0);
        due("in the only one", follows(two, COUNT, 3, 2, 1, 1), 1);
        due("not in the only one", follows(two, COUNT, 3, 2, 0, 0), 0);
        due("what is told follows", follows(SOME.make(), SUM, 0, 1, 2), 1);
        dueUnchanged(SOME, "follows", x -> x.follows(MORE, 0, 0, 1, 1, 6));
    }

    private static void followsWithTenFacts() {
        due("it holds", follows(FULL.make(), COUNT, 0, 0, 1, 6), 1);
        due("it can hold", follows(FULL.make(), COUNT, 0, 0, 1, 3), 2);
        due("it can not hold", follows(FULL.make(), COUNT, 0, 0, 6, 6), 0);
        due("it is wrong", follows(FULL.make(), COUNT, 0, 0, 6, 7), BAD_VALUE);
        dueUnchanged(FULL, "follows", x -> x.follows(COUNT, 0, 0, 6, 6, 0));
    }

    private static void followsWithoutSolution() {
        for (int form = 0; form < 7; form++) {
            due("form " + form, follows(TORN.make(), form), NONE);
        }
        due("what is told", follows(TORN.make(), WITHIN, 0, 1), NONE);
        dueUnchanged(TORN, "follows", x -> x.follows(WITHIN, 0, 1, 0, 0, 0));
        dueRefused("a wrong form", BAD_VALUE, x -> x.follows(7, 0, 0, 0, 0, 0));
        dueRefused("a wrong number", BAD_VALUE, x -> x.follows(SIZE, 0, 3, 2, 0, 0));
        dueRefused("a number that has to be 0", BAD_VALUE, x -> x.follows(SIZE, 0, 3, 3, 0, 1));
    }

    // ---- promises 13 to 15

    private static void leftOutInOrder() {
        int[][] same = new int[10][];
        for (int i = 0; i < 10; i++) {
            same[i] = fact(COUNT, 0, 0, 5, 6);
        }
        due("the last of ten that are each enough", bagsOf(4, same).contradiction(), 1 << 9);
        for (int i = 0; i < 9; i++) {
            same[i] = fact(COUNT, i / 3, i % 3, 0, 6);
        }
        due("the only one, the last of ten", bagsOf(4, same).contradiction(), 1 << 9);
        same[9] = same[0];
        same[0] = fact(COUNT, 0, 0, 5, 6);
        due("the only one, the first of ten", bagsOf(4, same).contradiction(), 1);
        due("one fact", bagsOf(4, fact(SIZE, 0, 13, 13)).contradiction(), 1);
        due("the earlier pair is left out", bagsOf(4, fact(COUNT, 0, 0, 1, 1), fact(COUNT, 0, 0, 2, 2), fact(COUNT, 0, 0, 3, 3))
                .contradiction(), 2 | 4);
        int[][] ring = new int[10][];
        for (int i = 0; i < 10; i++) {
            ring[i] = fact(MORE, i / 3, i % 3, (i + 1) % 10 / 3, (i + 1) % 10 % 3, i == 0 ? 1 : 0);
        }
        due("all ten", bagsOf(4, ring).contradiction(), 1023);
        due("left out for good", bagsOf(4, fact(WITHIN, 0, 1), fact(WITHIN, 0, 2), fact(WITHIN, 2, 1), fact(COUNT, 1, 0, 0, 1),
                fact(COUNT, 0, 0, 2, 4)).contradiction(), 2 | 4 | 8 | 16);
        dueUnchanged(TORN, "contradiction", BagCounts::contradiction);
    }

    private static void noContradictionWithSolution() {
        due("no facts", new BagCounts().contradiction(), NONE);
        due("ten facts", FULL.make().contradiction(), NONE);
        due("just one solution", bagsOf(1, fact(SIZE, 0, 3, 3), fact(SIZE, 1, 3, 3), fact(SIZE, 2, 3, 3), fact(SIZE, 3, 3, 3))
                .contradiction(), NONE);
    }

    private static void reasonLeavesOutInOrder() {
        int[][] same = new int[10][];
        for (int i = 0; i < 10; i++) {
            same[i] = fact(COUNT, 2, 1, 1, 3);
        }
        due("the last of ten same ones: the least", bagsOf(4, same).reason(2, 1, 0), 1 << 9);
        due("the last of ten same ones: the greatest", bagsOf(4, same).reason(2, 1, 1), 1 << 9);
        BagCounts bags = bagsOf(4, fact(COUNT, 0, 0, 2, 4), fact(COUNT, 0, 0, 1, 3), fact(WITHIN, 0, 1), fact(WITHIN, 1, 2),
                fact(WITHIN, 0, 2));
        due("the least by one fact", bags.reason(0, 0, 0), 1);
        due("the greatest by another", bags.reason(0, 0, 1), 2);
        due("the longer way is left out", bags.reason(2, 0, 0), 1 | 16);
        due("of the bag between", bags.reason(1, 0, 0), 1 | 4);
        int[][] chain = new int[10][];
        for (int i = 0; i < 9; i++) {
            chain[i] = fact(MORE, (i + 1) / 3, (i + 1) % 3, i / 3, i % 3, 0);
        }
        chain[9] = fact(COUNT, 0, 0, 2, 4);
        due("all ten", bagsOf(4, chain).reason(3, 0, 0), 1023);
        dueUnchanged(FULL, "reason", x -> x.reason(0, 0, 0));
        due("without a solution", TORN.make().reason(0, 0, 0), NONE);
        dueUnchanged(TORN, "reason", x -> x.reason(0, 0, 0));
    }

    private static void reasonIsRefusedAsBound() {
        for (int bag : new int[] {-1, 4, LOWEST, HIGHEST}) {
            dueRefused("reason(" + bag + ", 2, 1)", NO_SUCH, x -> x.reason(bag, 2, 1));
        }
        for (int kind : new int[] {-1, 3, LOWEST, HIGHEST}) {
            dueRefused("reason(3, " + kind + ", 1)", NO_SUCH, x -> x.reason(3, kind, 1));
        }
        for (int what : new int[] {-1, 2, LOWEST, HIGHEST}) {
            dueRefused("reason(3, 2, " + what + ")", BAD_VALUE, x -> x.reason(3, 2, what));
        }
    }

    private static void aBoundWithoutReason() {
        due("no facts", new BagCounts().reason(3, 2, 1), 0);
        due("a least of 0", bagsOf(4, fact(COUNT, 0, 0, 0, 3)).reason(0, 0, 0), 0);
        due("a greatest of MOST", bagsOf(4, fact(COUNT, 0, 0, 1, 4)).reason(0, 0, 1), 0);
        due("a greatest of 3", bagsOf(4, fact(COUNT, 0, 0, 1, 3)).reason(0, 0, 1), 1);
        due("another kind", bagsOf(4, fact(COUNT, 0, 0, 1, 3)).reason(0, 1, 1), 0);
    }

    private static void needlessFollowsFromAllOthers() {
        int[][] same = new int[10][];
        for (int i = 0; i < 10; i++) {
            same[i] = fact(COUNT, 2, 1, 1, 3);
        }
        due("ten same ones", bagsOf(4, same).needless(), 1023);
        same[9] = fact(COUNT, 2, 1, 1, 2);
        due("the last one tells more", bagsOf(4, same).needless(), 511);
        same[9] = same[0];
        same[0] = fact(COUNT, 2, 1, 2, 3);
        due("the first one tells more", bagsOf(4, same).needless(), 1022);
        due("no facts", new BagCounts().needless(), 0);
        due("one fact that tells something", bagsOf(4, fact(COUNT, 0, 0, 0, 3)).needless(), 0);
        due("one fact that tells nothing", bagsOf(4, fact(COUNT, 0, 0, 0, 4)).needless(), 1);
        due("what no fact tells, but the 0", bagsOf(4, fact(SIZE, 0, 0, 12)).needless(), 1);
        dueUnchanged(FULL, "needless", BagCounts::needless);
    }

    private static void nothingNeedlessWithoutSolution() {
        due("a contradiction", TORN.make().needless(), NONE);
        due("one fact", bagsOf(4, fact(SIZE, 0, 13, 13)).needless(), NONE);
        dueUnchanged(TORN, "needless", BagCounts::needless);
    }

    // ---- promises 16 to 19

    private static void theLowestBitsAreTheLastCharacter() {
        BagCounts bags = new BagCounts();
        bags.put('B' | '<' << 8 | 'A' << 16);
        due("tell", bags.tell(), 1);
        dueFact(bags, 0, fact(WITHIN, 0, 1));
        bags.put(packed("Dz>Cy-5;"));
        bags.put(packed("#"));
        bags.put(packed("A=1"));
        bags.put(packed("8"));
        due("tell in pieces", bags.tell(), 2);
        dueFact(bags, 1, fact(MORE, 3, 2, 2, 1, -5));
        dueFact(bags, 2, fact(SIZE, 0, 18, 18));
    }

    private static void oneToEightCharacters() {
        for (int length = 1; length <= 8; length++) {
            due(length + " characters", new BagCounts().put(packed("~~~~~~~~".substring(0, length))), length);
            due(length + " characters behind 8", written("!!!!!!!!").put(packed("!!!!!!!!".substring(0, length))), 8 + length);
        }
        dueRefused("no character", BAD_VALUE, x -> x.put(0));
    }

    private static void codesAre33To126() {
        for (int code = 0; code < 256; code++) {
            due("the code " + code, new BagCounts().put(code), code >= 33 && code <= 126 ? 1 : BAD_VALUE);
        }
        for (int length = 1; length <= 8; length++) {
            long right = packed("AAAAAAAA".substring(0, length));
            for (int at = 0; at < length; at++) {
                long others = right & ~(255L << 8 * at);
                for (long code : new long[] {33, 126}) {
                    due("the code " + code, new BagCounts().put(others | code << 8 * at), length);
                }
                for (long code : new long[] {1, 32, 127, 128, 255}) {
                    long wrong = others | code << 8 * at;
                    dueRefused("the code " + code + " at " + at + " of " + length, BAD_VALUE, x -> x.put(wrong));
                }
            }
        }
        dueRefused("all bits", BAD_VALUE, x -> x.put(-1L));
        dueRefused("the sign alone", BAD_VALUE, x -> x.put(Long.MIN_VALUE));
        dueRefused("the highest number", BAD_VALUE, x -> x.put(Long.MAX_VALUE));
    }

    private static void everythingAboveZeroIsZero() {
        for (int zero = 0; zero < 8; zero++) {
            long below = zero == 0 ? 0 : packed("AAAAAAAA".substring(0, zero));
            due("nothing above " + zero + " characters", new BagCounts().put(below), zero == 0 ? BAD_VALUE : zero);
            for (int bit = 8 * zero + 8; bit < 64; bit++) {
                long wrong = below | 1L << bit;
                dueRefused(SOME, "the bit " + bit + " above " + zero + " characters", BAD_VALUE, x -> x.put(wrong));
            }
            for (int above = zero + 1; above < 8; above++) {
                long wrong = below | (long) 'A' << 8 * above;
                dueRefused(SOME, "a character at " + above + " above " + zero, BAD_VALUE, x -> x.put(wrong));
            }
        }
    }

    private static void longerThanEighty() {
        for (int length = 72; length <= 80; length++) {
            String ahead = EIGHTY.substring(0, length);
            Scene scene = new Scene("a pad of " + length, () -> written(ahead));
            for (int more = 1; more <= 8; more++) {
                long characters = packed("~!~!~!~!".substring(0, more));
                if (length + more <= 80) {
                    due(more + " behind " + length, scene.make().put(characters), length + more);
                } else {
                    dueRefused(scene, more + " behind " + length, TOO_MANY, x -> x.put(characters));
                }
            }
        }
        BagCounts full = WRITTEN.make();
        full.wipe();
        due("put when a full pad is wiped", full.put(packed("A<B")), 3);
        due("fault then", full.fault(), NONE);
    }

    private static void wipeReturnsTheLength() {
        due("wipe of nothing", new BagCounts().wipe(), 0);
        for (int length = 1; length <= 80; length++) {
            BagCounts bags = written(EIGHTY.substring(0, length));
            due("wipe", bags.wipe(), length);
            due("length then", bags.count(2), 0);
            due("wipe again", bags.wipe(), 0);
            due("changes", bags.count(3), 0);
        }
        dueUnchanged(EMPTY, "wipe", BagCounts::wipe);
        dueAlike("a wiped pad", () -> with(SOME, BagCounts::wipe), () -> with(SOME, x -> {
            x.wipe();
            x.put('~');
            x.wipe();
        }));
    }

    private static void faultOrNone() {
        for (Scene scene : SCENES) {
            dueUnchanged(scene, "fault", BagCounts::fault);
        }
        due("an empty pad", EMPTY.make().fault(), 0);
        due("some facts", SOME.make().fault(), NONE);
        due("a full pad with a fault", FULL.make().fault(), 80);
        due("a full pad", WRITTEN.make().fault(), NONE);
        due("a fact that fact() refuses", TORN.make().fault(), NONE);
    }

    private static void toldUpToTheFirstError() {
        due("all", written("A<B;B<C;C<D").tell(), 3);
        String[] wrong = {"Ax=7", "Ax=0-7", "Ax=18", "Ax=3-2", "#A=3-2", "#A=18-0", "Dz=6-5"};
        for (String fact : wrong) {
            due(fact + " alone", written(fact).tell(), 0);
            due(fact + " ahead", written(fact + ";A<B").tell(), 0);
            BagCounts bags = written("A<B;Ax=6;" + fact + ";B<C");
            due(fact + " behind two", bags.tell(), 2);
            due("facts", bags.count(0), 2);
            dueFact(bags, 0, fact(WITHIN, 0, 1));
            dueFact(bags, 1, fact(COUNT, 0, 0, 6, 6));
        }
        for (int known = 0; known <= 10; known++) {
            BagCounts bags = new BagCounts();
            for (int i = 0; i < known; i++) {
                bags.fact(COUNT, 1, 1, 0, 4, 0);
            }
            write(bags, "A<B;".repeat(19) + "A<B");
            due("tell behind " + known + " facts", bags.tell(), 10 - known);
            due("ten facts then", bags.count(0), 10);
            due("the pad then", bags.count(2), 0);
        }
    }

    private static void tellEmptiesThePad() {
        for (String text : new String[] {"A<B", "Ax=7", "A<B;Ax=7;B<C", EIGHTY}) {
            BagCounts bags = written(text);
            due("tell of " + text + " is none that is refused", Math.min(bags.tell(), 0), 0);
            due("length then", bags.count(2), 0);
            due("fault then", bags.fault(), 0);
            due("tell again", bags.tell(), BAD_TEXT);
        }
    }

    private static void tellIsOneChange() {
        BagCounts all = written(EIGHTY);
        due("tell of ten", all.tell(), 10);
        due("one change", all.count(3), 1);
        due("undo", all.undo(), 0);
        due("no facts", all.count(0), 0);
        BagCounts none = TORN.make();
        due("tell of none", none.tell(), 0);
        due("one change more", none.count(3), 5);
        due("undo", none.undo(), 4);
        due("facts", none.count(0), 3);
        BagCounts full = with(FULL, x -> {
            x.wipe();
            x.put(packed("A<B"));
        });
        due("tell when there are ten", full.tell(), 0);
        due("a change that drops the oldest", full.count(3), 6);
    }

    private static void badTextStays() {
        for (Scene scene : new Scene[] {EMPTY, FULL}) {
            dueRefused(scene, "tell", BAD_TEXT, BagCounts::tell);
        }
        for (String text : new String[] {"A", "A<B;", "A<B;;", "A<B;E", "#A=19", "A<B;Ax=", "~"}) {
            dueRefused(new Scene("the text " + text, () -> written(text)), "tell", BAD_TEXT, BagCounts::tell);
        }
        BagCounts bags = written("A<B;C<");
        due("a fault at the end", bags.tell(), BAD_TEXT);
        due("nothing is told", bags.count(0), 0);
        bags.put('D');
        due("it stays, and is told when it is right", bags.tell(), 2);
    }

    // ---- promise 20

    private static void everythingIsAsItWas() {
        dueUnchanged(SOME, "most, undone", x -> {
            x.most(1);
            x.undo();
        });
        dueUnchanged(SOME, "fact, undone", x -> {
            x.fact(COUNT, 3, 2, 1, 1, 0);
            x.undo();
        });
        for (int fact = 0; fact < 3; fact++) {
            int dropped = fact;
            dueUnchanged(SOME, "drop(" + fact + "), undone", x -> {
                x.drop(dropped);
                x.undo();
            });
        }
        dueUnchanged(SOME, "restore, undone", x -> {
            x.restore(0);
            x.undo();
        });
        dueUnchanged(SOME, "tell, undone, and put again", x -> {
            x.tell();
            x.undo();
            write(x, "A<B;#C=3");
        });
        dueUnchanged(EMPTY, "six changes, all undone", x -> {
            for (int i = 0; i < 6; i++) {
                x.fact(COUNT, i % 4, i % 3, 1, 1, 0);
            }
            for (int i = 0; i < 6; i++) {
                x.undo();
            }
        });
        Scene told = new Scene("ten facts of a text", () -> with(WRITTEN, BagCounts::tell));
        for (int fact = 0; fact < 10; fact++) {
            int dropped = fact;
            dueUnchanged(told, "drop(" + fact + ") and another fact, undone", x -> {
                x.drop(dropped);
                x.fact(MORE, 1, 1, 2, 1, 5);
                x.undo();
                x.undo();
            });
        }
    }

    private static void undoLeavesThePadAndTheSlots() {
        BagCounts bags = SOME.make();
        write(bags, ";B<C");
        bags.save(1);
        due("undo", bags.undo(), 3);
        due("the pad stays", bags.count(2), 12);
        due("its text stays", bags.fault(), NONE);
        due("the slot 0 stays", bags.restore(0), 2);
        due("the slot 1 stays", bags.restore(1), 3);
        due("tell", bags.tell(), 3);
        due("a told text does not come back", bags.undo(), 5);
        due("the pad", bags.count(2), 0);
        BagCounts wiped = SOME.make();
        wiped.wipe();
        wiped.undo();
        due("a wiped text does not come back", wiped.count(2), 0);
        BagCounts filled = with(EMPTY, x -> {
            x.most(5);
            x.save(1);
            x.undo();
        });
        due("a slot filled behind the change stays filled", filled.restore(1), 0);
        due("with what was saved", filled.count(1), 5);
    }

    private static void atMostSixStates() {
        BagCounts bags = new BagCounts();
        for (int i = 1; i <= 12; i++) {
            bags.most(1 + i % 6);
            due("changes behind " + i, bags.count(3), Math.min(6, i));
        }
        for (int i = 1; i <= 6; i++) {
            due("undo " + i, bags.undo(), 6 - i);
            due("changes", bags.count(3), 6 - i);
            due("MOST", bags.count(1), 1 + (12 - i) % 6);
        }
        due("no more", bags.undo(), NOT_POSSIBLE);
        due("MOST stays", bags.count(1), 1);
    }

    /** Behind six changes of MOST, from 1 to 6, one more change of each kind: then just five of the six are left. */
    private static void theOldestIsDropped() {
        dueOldestDropped("most", x -> x.most(6));
        dueOldestDropped("fact", x -> x.fact(WITHIN, 0, 1, 0, 0, 0));
        dueOldestDropped("drop", x -> x.drop(0));
        dueOldestDropped("tell", BagCounts::tell);
        dueOldestDropped("restore", x -> x.restore(0));
    }

    private static void dueOldestDropped(String what, Consumer<BagCounts> change) {
        BagCounts bags = new BagCounts();
        bags.fact(COUNT, 3, 2, 0, 1, 0);
        bags.save(0);
        write(bags, "A<B");
        for (int most = 1; most <= 6; most++) {
            bags.most(most);
        }
        due("a full history", bags.count(3), 6);
        change.accept(bags);
        due("still full behind " + what, bags.count(3), 6);
        for (int most = 6; most >= 1; most--) {
            due("undo", bags.undo(), most - 1);
            due("MOST then", bags.count(1), most);
            due("facts then", bags.count(0), 1);
            dueFact(bags, 0, fact(COUNT, 3, 2, 0, 1));
        }
        due("the oldest is dropped", bags.undo(), NOT_POSSIBLE);
        due("MOST is not 4 again", bags.count(1), 1);
    }

    private static void recordedIfNothingIsDifferent() {
        BagCounts bags = new BagCounts();
        due("the same MOST", bags.most(4), 4);
        due("a change", bags.count(3), 1);
        bags.save(0);
        due("the same state", bags.restore(0), 0);
        due("a change more", bags.count(3), 2);
        write(bags, "Ax=7");
        due("no fact", bags.tell(), 0);
        due("one more", bags.count(3), 3);
        for (int left = 2; left >= 0; left--) {
            due("undo", bags.undo(), left);
            due("MOST", bags.count(1), 4);
            due("facts", bags.count(0), 0);
        }
        due("no more", bags.undo(), NOT_POSSIBLE);
    }

    private static void onlyChangesAreRecorded() {
        BagCounts bags = new BagCounts();
        bags.most(5);
        bags.fact(COUNT, 0, 0, 1, 2, 0);
        bags.put('A');
        bags.wipe();
        bags.save(0);
        bags.fault();
        bags.isPossible();
        bags.bound(0, 0, 0);
        bags.sizeOf(0, 0);
        bags.least(0, 0);
        bags.solutions(5);
        bags.follows(WITHIN, 0, 1, 0, 0, 0);
        bags.contradiction();
        bags.reason(0, 0, 0);
        bags.needless();
        bags.ofFact(0, 0);
        due("two changes", bags.count(3), 2);
        bags.most(0);
        bags.fact(COUNT, 0, 0, 3, 2, 0);
        bags.drop(1);
        bags.tell();
        bags.restore(1);
        bags.restore(2);
        due("two changes, none by an error", bags.count(3), 2);
        due("undo is no change", bags.undo(), 1);
        due("undo once more", bags.undo(), 0);
        due("there is none left", bags.undo(), NOT_POSSIBLE);
        due("a change behind undo", bags.most(6), 4);
        due("is the first one", bags.count(3), 1);
    }

    private static void aFactOfATextRecordsNothing() {
        BagCounts bags = new BagCounts();
        bags.most(5);
        write(bags, "A<B;B<C;C<D");
        due("three facts", bags.tell(), 3);
        due("one change more", bags.count(3), 2);
        due("undo of all three", bags.undo(), 1);
        due("no facts", bags.count(0), 0);
        due("undo of the change before", bags.undo(), 0);
        due("MOST", bags.count(1), 4);
    }

    private static void nothingToUndo() {
        dueRefused(EMPTY, "undo", NOT_POSSIBLE, BagCounts::undo);
        dueRefused(WRITTEN, "undo", NOT_POSSIBLE, BagCounts::undo);
        for (Scene scene : SCENES) {
            int changes = scene.make().count(3);
            Scene undone = new Scene(scene.name + ", all undone", () -> with(scene, x -> {
                for (int i = 0; i < changes; i++) {
                    x.undo();
                }
            }));
            dueRefused(undone, "undo", NOT_POSSIBLE, BagCounts::undo);
        }
        due("undo of the only change", bagsOf(5).undo(), 0);
    }

    // ---- promises 21 and 22

    private static void slotsToSaveIn() {
        for (Scene scene : SCENES) {
            due("save(0)", scene.make().save(0), factsIn(scene));
            due("save(1)", scene.make().save(1), factsIn(scene));
        }
        for (int slot : new int[] {-1, 2, 3, LOWEST, HIGHEST, 256}) {
            dueRefused("save(" + slot + ")", BAD_VALUE, x -> x.save(slot));
        }
    }

    private static void saveOverwrites() {
        BagCounts bags = FULL.make();
        due("save of ten over ten", bags.save(0), 10);
        bags.drop(0);
        due("save of nine over ten", bags.save(0), 9);
        due("the other one stays", bags.restore(1), 2);
        due("save of two over nine", bags.save(0), 2);
        bags.undo();
        due("restore of what was saved last", bags.restore(0), 2);
        due("MOST then", bags.count(1), 3);
        bags.most(1);
        due("save of another MOST", bags.save(1), 2);
        bags.most(2);
        bags.restore(1);
        due("MOST of the slot 1", bags.count(1), 1);
        bags.restore(0);
        due("MOST of the slot 0", bags.count(1), 3);
    }

    private static void saveIsNoChange() {
        dueUnchanged(WRITTEN, "save of nothing, and restore undone", x -> {
            due("restore of an empty slot", x.restore(0), NOT_POSSIBLE);
        });
        BagCounts bags = SOME.make();
        due("save", bags.save(1), 3);
        due("facts", bags.count(0), 3);
        due("MOST", bags.count(1), 5);
        due("the pad is not saved", bags.count(2), 8);
        due("changes", bags.count(3), 4);
        bags.wipe();
        bags.restore(1);
        due("the pad is not restored", bags.count(2), 0);
        due("the history is not restored", bags.count(3), 5);
        BagCounts slots = SOME.make();
        slots.save(1);
        slots.most(1);
        slots.save(0);
        slots.restore(1);
        due("the slots are not restored", slots.restore(0), 3);
        due("the slot 0 is as it was saved", slots.count(1), 1);
    }

    private static void slotsToRestore() {
        BagCounts bags = FULL.make();
        due("restore(0)", bags.restore(0), 10);
        due("restore(1)", bags.restore(1), 2);
        for (int slot : new int[] {-1, 2, 3, LOWEST, HIGHEST, 256}) {
            dueRefused("restore(" + slot + ")", BAD_VALUE, x -> x.restore(slot));
        }
    }

    private static void nothingWasSaved() {
        for (Scene scene : new Scene[] {EMPTY, WRITTEN, TORN}) {
            dueRefused(scene, "restore(0)", NOT_POSSIBLE, x -> x.restore(0));
            dueRefused(scene, "restore(1)", NOT_POSSIBLE, x -> x.restore(1));
        }
        dueRefused(SOME, "restore(1)", NOT_POSSIBLE, x -> x.restore(1));
        due("the other one was filled", SOME.make().restore(0), 2);
        BagCounts bags = new BagCounts();
        bags.save(2);
        bags.save(-1);
        due("a refused save fills no slot", bags.restore(0), NOT_POSSIBLE);
        due("nor the other", bags.restore(1), NOT_POSSIBLE);
        due("no facts can be saved, too", bags.save(1), 0);
        due("and restored", bags.restore(1), 0);
        due("the other one is still empty", bags.restore(0), NOT_POSSIBLE);
    }

    private static void theSlotKeepsIt() {
        BagCounts bags = FULL.make();
        for (int i = 0; i < 3; i++) {
            due("restore of two", bags.restore(1), 2);
            dueFact(bags, 0, fact(COUNT, 0, 0, 1, 5));
            dueFact(bags, 1, fact(SIZE, 1, 2, 17));
            due("MOST", bags.count(1), 3);
            bags.drop(0);
            bags.most(1);
            bags.fact(WITHIN, 3, 3, 0, 0, 0);
            due("restore of ten", bags.restore(0), 10);
            dueFact(bags, 9, fact(MORE, 0, 2, 2, 0, 1));
            due("MOST of ten", bags.count(1), 6);
            bags.drop(9);
            bags.drop(0);
        }
        for (int i = 0; i < 10; i++) {
            bags.drop(0);
            bags.fact(MORE, 3, 2, 3, 2, -6);
        }
        bags.restore(1);
        due("restore of ten over ten others", bags.restore(0), 10);
        dueFact(bags, 0, fact(COUNT, 0, 0, 1, 5));
        dueFact(bags, 9, fact(MORE, 0, 2, 2, 0, 1));
        BagCounts none = new BagCounts();
        none.save(0);
        none.fact(COUNT, 0, 0, 3, 3, 0);
        due("restore of none", none.restore(0), 0);
        due("no facts", none.bound(0, 0, 0), 0);
    }

    private static void restoreIsAChange() {
        BagCounts bags = SOME.make();
        due("restore", bags.restore(0), 2);
        due("a change more", bags.count(3), 5);
        due("undo", bags.undo(), 4);
        due("facts", bags.count(0), 3);
        dueFact(bags, 2, fact(MORE, 3, 1, 2, 2, -2));
        BagCounts full = FULL.make();
        due("restore with a full history", full.restore(1), 2);
        due("it is still full", full.count(3), 6);
        due("undo", full.undo(), 5);
        due("ten facts again", full.count(0), 10);
    }

    // ---- any arguments

    private static void noCallThrows() {
        int[] numbers = {LOWEST, -7, -1, 0, 1, 2, 3, 5, 10, 31, 32, 81, 501, 1 << 16, HIGHEST};
        for (Scene scene : SCENES) {
            for (int a : numbers) {
                BagCounts bags = scene.make();
                for (int b : numbers) {
                    due("an answer of " + a + ", " + b, answersTo(bags, a, b) ? 1 : 0, 1);
                }
            }
        }
    }

    private static boolean answersTo(BagCounts bags, int a, int b) {
        int[] answers = {bags.most(a), bags.fact(a, b, a, b, a, b), bags.drop(a), bags.ofFact(a, b), bags.count(a),
            bags.bound(a, b, a), bags.sizeOf(b, a), bags.least(a, b), bags.solutions(a), bags.follows(b, a, b, a, b, a),
            bags.reason(b, a, b), bags.put((long) a << 32 | b), bags.fault(), bags.tell(), bags.undo(), bags.save(a),
            bags.restore(b), bags.isPossible(), bags.contradiction(), bags.needless(), bags.wipe()};
        for (int answer : answers) {
            if (answer < NONE || answer > 1023) {
                return false;
            }
        }
        return true;
    }
}
