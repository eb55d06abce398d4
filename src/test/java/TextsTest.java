/** Each sentence of the document's Texts that names a boundary case. */
public final class TextsTest extends Checks {
    private static final String DIGITS = "0123456789";
    private static final String BAG = "ABCD";
    private static final String KIND = "xyz";
    private static final int FIRST_CODE = 33, LAST_CODE = 126;

    public static void main(String[] arguments) {
        sentence("Texts: The pad is a text of at most 80 characters", TextsTest::atMostEightyCharacters);
        sentence("Texts: a row of facts", TextsTest::aRowOfFacts);
        sentence("Texts: the bag behind \"=\" is a, the other two are b and c", TextsTest::theBagBehindEqualsIsA);
        sentence("Texts: WITHIN (a \"<\" b), SIZE, COUNT, MORE", TextsTest::withinSizeCountMore);
        sentence("Texts: A bag is a letter from A to D", TextsTest::aBagIsALetterFromAToD);
        sentence("Texts: a kind a letter from x to z", TextsTest::aKindIsALetterFromXToZ);
        sentence("Texts: a digit is 0 to 6", TextsTest::aDigitIsZeroToSix);
        sentence("Texts: e behind its sign", TextsTest::eBehindItsSign);
        sentence("Texts: 0, if it is left out", TextsTest::zeroIfItIsLeftOut);
        sentence("Texts: a number is 0 to 18", TextsTest::aNumberIsZeroToEighteen);
        sentence("Texts: without leading zeros", TextsTest::withoutLeadingZeros);
        sentence("Texts: the second number of a range is left out if it is the same", TextsTest::theSecondNumberLeftOut);
        sentence("Texts: the second number of a range may be any number", TextsTest::theSecondNumberOfARange);
        sentence("Texts: the first character that cannot stand at its place", TextsTest::theFirstThatCannotStand);
        sentence("Texts: (also of a digit by which a number would be above 18)", TextsTest::aDigitAboveEighteen);
        sentence("Texts: the text ends too early: the length of the text", TextsTest::endsTooEarly);
        sentence("Texts: (also if it is empty)", TextsTest::anEmptyText);
        finish("TextsTest");
    }

    private static void atMostEightyCharacters() {
        for (int piece = 1; piece <= 8; piece++) {
            long characters = packed("A<B;C<D;".substring(0, piece));
            BagCounts fits = written(EIGHTY.substring(0, 80 - piece));
            due("put of " + piece + " up to 80", fits.put(characters), 80);
            due("length", fits.count(2), 80);
            due("one more", fits.put('A'), TOO_MANY);
            due("length then", fits.count(2), 80);
            String nearlyFull = EIGHTY.substring(0, 81 - piece);
            Scene scene = new Scene("a pad with room for " + (piece - 1), () -> written(nearlyFull));
            dueRefused(scene, "put of " + piece + " up to 81", TOO_MANY, x -> x.put(characters));
            dueRefused(WRITTEN, "put of " + piece + " up to " + (80 + piece), TOO_MANY, x -> x.put(characters));
        }
        due("79 characters without a fault", written("A<B;".repeat(19) + "A<B").fault(), NONE);
        due("80 characters without a fault", written(EIGHTY).fault(), NONE);
        due("80 characters that end too early", written(EIGHTY_WITH_FAULT).fault(), 80);
        due("the last of 80 characters cannot stand", written("A<B;".repeat(19) + "A<BE").fault(), 79);
        due("facts of 80 characters", written(EIGHTY).tell(), 10);
    }

    private static void aRowOfFacts() {
        String[] facts = {"A+B=C", "A|B=C", "A&B=C", "A<B", "#A=1", "Ax=0-1", "Ax>By", "Ax>By-6"};
        for (String fact : facts) {
            due("one fact " + fact, written(fact).tell(), 1);
            for (String next : facts) {
                due("two facts " + fact + " " + next, written(fact + ";" + next).tell(), 2);
                dueFault(fact + next, fact.length());
                dueFault(fact + ";;" + next, fact.length() + 1);
                dueFault(fact + "," + next, fact.length());
            }
            dueFault(fact + ";", fact.length() + 1);
            dueFault(";" + fact, 0);
        }
        BagCounts twenty = written("A<B;".repeat(19) + "A<B");
        due("a row of 20 facts has no fault", twenty.fault(), NONE);
        due("but there are up to 10", twenty.tell(), 10);
    }

    /** A text of one fact, and the fact that it tells. */
    private static void dueTold(String text, int... want) {
        BagCounts bags = written(text);
        due("fault of " + text, bags.fault(), NONE);
        due("tell of " + text, bags.tell(), 1);
        dueFact(bags, 0, want);
    }

    private static void theBagBehindEqualsIsA() {
        for (int i = 0; i < 64; i++) {
            int a = i % 4;
            int b = i / 4 % 4;
            int c = i / 16;
            String of = BAG.charAt(c) + "=" + BAG.charAt(a);
            dueTold(BAG.charAt(b) + "+" + of, fact(SUM, a, b, c));
            dueTold(BAG.charAt(b) + "|" + of, fact(GREATEST, a, b, c));
            dueTold(BAG.charAt(b) + "&" + of, fact(LEAST, a, b, c));
        }
    }

    private static void withinSizeCountMore() {
        for (int a = 0; a < 4; a++) {
            String bag = "" + BAG.charAt(a);
            for (int b = 0; b < 4; b++) {
                dueTold(bag + "<" + BAG.charAt(b), fact(WITHIN, a, b));
            }
            dueTold("#" + bag + "=3-15", fact(SIZE, a, 3, 15));
            for (int kind = 0; kind < 3; kind++) {
                String ofKind = bag + KIND.charAt(kind);
                dueTold(ofKind + "=2-5", fact(COUNT, a, kind, 2, 5));
                for (int i = 0; i < 12; i++) {
                    dueTold(ofKind + ">" + BAG.charAt(i / 3) + KIND.charAt(i % 3) + "+4", fact(MORE, a, kind, i / 3, i % 3, 4));
                }
            }
        }
    }

    /** What may stand behind a text: with each other character the fault is there. */
    private static void dueBehind(String text, String allowed) {
        due("fault of " + text, written(text).fault(), allowed.indexOf(';') >= 0 ? NONE : text.length());
        for (char next = FIRST_CODE; next <= LAST_CODE; next++) {
            int fault = written(text + next).fault();
            if (allowed.indexOf(next) < 0) {
                due("fault of " + text + next, fault, text.length());
            } else {
                due("fault of " + text + next + " is none, or the end", fault == NONE ? text.length() + 1 : fault,
                        text.length() + 1);
            }
        }
    }

    private static void aBagIsALetterFromAToD() {
        for (String text : new String[] {"A+", "A|", "A&", "A+B=", "A|B=", "A&B=", "A<", "#", "Ax>"}) {
            dueBehind(text, BAG);
        }
        dueBehind("", BAG + "#");
        dueBehind("A<B;", BAG + "#");
        for (char bag = 'A'; bag <= 'D'; bag++) {
            dueTold("#" + bag + "=0", fact(SIZE, bag - 'A'));
        }
        dueFault("@<A", 0);
        dueFault("E<A", 0);
        dueFault("A<@", 2);
        dueFault("A<E", 2);
        dueFault("a<A", 0);
    }

    private static void aKindIsALetterFromXToZ() {
        dueBehind("A", "+|&<" + KIND);
        dueBehind("Ax>B", KIND);
        for (char kind = 'x'; kind <= 'z'; kind++) {
            dueTold("B" + kind + "=0", fact(COUNT, 1, kind - 'x'));
        }
        dueFault("Aw=1", 1);
        dueFault("A{=1", 1);
        dueFault("AX=1", 1);
        dueFault("Ax>Bw", 4);
        dueFault("Ax>B{", 4);
    }

    private static void aDigitIsZeroToSix() {
        dueBehind("Ax>By+", "0123456");
        dueBehind("Ax>By-", "0123456");
        dueBehind("Ax>By+0", ";");
        dueBehind("Ax>By+1", ";");
        dueBehind("Ax>By-6", ";");
        dueFault("Ax>By+7", 6);
        dueFault("Ax>By-7", 6);
        dueFault("Ax>By+16", 7);
    }

    private static void eBehindItsSign() {
        dueBehind("Ax>By", "+-;");
        for (int digit = 0; digit <= 6; digit++) {
            dueTold("Cz>Dx+" + digit, fact(MORE, 2, 2, 3, 0, digit));
            dueTold("Cz>Dx-" + digit, fact(MORE, 2, 2, 3, 0, -digit));
        }
        dueFault("Cz>Dx+", 6);
        dueFault("Cz>Dx-", 6);
        dueFault("Cz>Dx+;", 6);
        dueFault("Cz>Dx+-1", 6);
        dueFault("Cz>Dx--1", 6);
        dueFault("Cz>Dx3", 5);
        dueFault("#A=+3", 3);
        dueFault("#A=-3", 3);
    }

    private static void zeroIfItIsLeftOut() {
        dueTold("Cz>Dx", fact(MORE, 2, 2, 3, 0, 0));
        BagCounts bags = written("Cz>Dx+6;Cz>Dx;Cz>Dx-6;Cz>Dx;A<B");
        due("tell", bags.tell(), 5);
        due("behind another one's sign", bags.ofFact(1, 5), 100);
        due("behind another one's sign below 0", bags.ofFact(3, 5), 100);
        dueFact(bags, 4, fact(WITHIN, 0, 1));
    }

    private static void aNumberIsZeroToEighteen() {
        for (int number = 0; number <= 18; number++) {
            dueTold("#A=" + number, fact(SIZE, 0, number, number));
            dueTold("#D=" + number + "-18", fact(SIZE, 3, number, 18));
            dueTold("#D=0-" + number, fact(SIZE, 3, 0, number));
            due("fault of a count " + number, written("Ax=" + number).fault(), NONE);
            due("fault of a count to " + number, written("Ax=0-" + number).fault(), NONE);
            due("tell of a count " + number, written("Ax=" + number).tell(), number <= 6 ? 1 : 0);
            due("tell of a count to " + number, written("Ax=0-" + number).tell(), number <= 6 ? 1 : 0);
        }
        for (int number = 19; number <= 99; number++) {
            dueFault("#A=" + number, 4);
            dueFault("#A=0-" + number, 6);
            dueFault("Ax=" + number, 4);
            dueFault("Ax=0-" + number, 6);
        }
        for (String text : new String[] {"#A=", "Ax=", "#A=1-", "Ax=1-", "#A=18-", "Ax=0-"}) {
            dueBehind(text, DIGITS);
        }
    }

    private static void withoutLeadingZeros() {
        for (char digit = '0'; digit <= '9'; digit++) {
            dueFault("#A=0" + digit, 4);
            dueFault("#A=0" + digit + "-18", 4);
            dueFault("#A=0-0" + digit, 6);
            dueFault("Ax=0" + digit, 4);
            dueFault("Ax=0-0" + digit, 6);
        }
        dueTold("#A=0", fact(SIZE, 0, 0, 0));
        dueTold("#A=10", fact(SIZE, 0, 10, 10));
        dueTold("#A=0-10", fact(SIZE, 0, 0, 10));
        dueBehind("#A=0", "-;");
        dueBehind("Ax=0", "-;");
        dueBehind("#A=0-0", ";");
        dueBehind("Ax=0-0", ";");
    }

    private static void theSecondNumberLeftOut() {
        for (int number = 0; number <= 6; number++) {
            dueTold("Bz=" + number, fact(COUNT, 1, 2, number, number));
        }
        dueTold("#A=18", fact(SIZE, 0, 18, 18));
        BagCounts bags = written("#A=3-9;#A=4;Ax=1-5;Ax=2");
        due("tell", bags.tell(), 4);
        dueFact(bags, 1, fact(SIZE, 0, 4, 4));
        dueFact(bags, 3, fact(COUNT, 0, 0, 2, 2));
        dueFault("#A=3-", 5);
        dueFault("#A=3-;A<B", 5);
        dueFault("Ax=10-", 6);
    }

    /** A range that goes down has no fault, but fact() refuses it; one that names a number twice is told. */
    private static void theSecondNumberOfARange() {
        for (int first = 0; first <= 18; first++) {
            for (int second = 0; second <= 18; second++) {
                BagCounts sizes = written("#C=" + first + "-" + second);
                due("fault of " + first + "-" + second, sizes.fault(), NONE);
                due("tell of the size " + first + "-" + second, sizes.tell(), first <= second ? 1 : 0);
                BagCounts counts = written("Cy=" + first + "-" + second);
                due("fault of " + first + "-" + second, counts.fault(), NONE);
                due("tell of the count " + first + "-" + second, counts.tell(), first <= second && second <= 6 ? 1 : 0);
            }
        }
        dueTold("#C=7-7", fact(SIZE, 2, 7, 7));
        dueTold("Cy=5-6", fact(COUNT, 2, 1, 5, 6));
        dueFault("#C=1-2-3", 6);
    }

    /** Behind each beginning of a fact, and of a row of them, each character. */
    private static void theFirstThatCannotStand() {
        for (String ahead : new String[] {"", "A<B;", "#C=0-18;Ax=1;"}) {
            for (String sign : new String[] {"+", "|", "&"}) {
                dueBehind(ahead + "D" + sign + "B", "=");
                dueBehind(ahead + "D" + sign + "B=A", ";");
            }
            dueBehind(ahead, BAG + "#");
            dueBehind(ahead + "B", "+|&<" + KIND);
            dueBehind(ahead + "B<D", ";");
            dueBehind(ahead + "#D", "=");
            dueBehind(ahead + "#D=7", "-;");
            dueBehind(ahead + "#D=7-8", ";");
            dueBehind(ahead + "Dz", "=>");
            dueBehind(ahead + "Dz=3", "-;");
            dueBehind(ahead + "Dz=3-4", ";");
            dueBehind(ahead + "Dz>A", KIND);
        }
        dueFault("~~", 0);
        dueFault("A~~", 1);
        dueFault("A<B;C~D~", 5);
        due("a fault goes when the pad is wiped", written("~").wipe(), 1);
    }

    private static void aDigitAboveEighteen() {
        for (String ahead : new String[] {"#A=", "Ax=", "#A=0-", "Ax=0-", "A<B;#A=", "A<B;Ax=18-"}) {
            String end = ahead.endsWith("-") ? ";" : "-;";
            dueBehind(ahead + "1", "012345678" + end);
            for (int first = 2; first <= 9; first++) {
                dueBehind(ahead + first, end);
            }
            for (int number = 10; number <= 18; number++) {
                dueBehind(ahead + number, end);
            }
        }
    }

    private static void endsTooEarly() {
        String[] facts = {"A+B=C", "D|A=B", "C&D=A", "B<D", "#A=3-15", "Ax=1-4", "Ay>Bz", "Cx>Cx+6"};
        for (String fact : facts) {
            for (int length = 1; length < fact.length(); length++) {
                String part = fact.substring(0, length);
                boolean isWhole = part.equals("#A=3") || part.equals("#A=3-1") || part.equals("Ax=1") || part.equals("Cx>Cx");
                dueFault(part, isWhole ? NONE : length);
                dueFault("A<B;" + part, isWhole ? NONE : length + 4);
            }
            dueFault(fact + ";", fact.length() + 1);
        }
    }

    private static void anEmptyText() {
        due("fault of a new pad", new BagCounts().fault(), 0);
        dueRefused(EMPTY, "tell of a new pad", BAD_TEXT, BagCounts::tell);
        BagCounts wiped = written("A<B");
        wiped.wipe();
        due("fault of a wiped pad", wiped.fault(), 0);
        due("tell of a wiped pad", wiped.tell(), BAD_TEXT);
        BagCounts told = written("A<B");
        told.tell();
        due("fault of a told pad", told.fault(), 0);
        due("tell of a told pad", told.tell(), BAD_TEXT);
        due("facts", told.count(0), 1);
        due("changes", told.count(3), 1);
    }
}
