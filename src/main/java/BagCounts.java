/**
 * Four bags of three kinds of things, facts about their counts, and what follows from the facts.
 */
public final class BagCounts {
    public static final int NO_SUCH = -1, BAD_VALUE = -2, BAD_TEXT = -3, TOO_MANY = -4, NOT_POSSIBLE = -5, NONE = -6;
    public static final int COUNT = 0, SIZE = 1, SUM = 2, GREATEST = 3, LEAST = 4, WITHIN = 5, MORE = 6;

    private static final int BAGS = 4, KINDS = 3;
    private static final int MOST_COUNT = 6, MOST_SIZE = 18;
    private static final int MOST_LIMIT = 500;
    private static final int SLOTS = 2;
    private static final int UNDOABLE = 6;

    private final Facts facts;
    private final Logic logic;
    private final Pad pad;
    private final States history;
    private final States slots;
    private int historySize;
    private int filledSlots;

    public BagCounts() {
        facts = new Facts();
        logic = new Logic();
        pad = new Pad();
        history = new States(UNDOABLE);
        slots = new States(SLOTS);
    }

    // ---- changes

    public int most(int most) {
        if (!isWithin(most, 1, MOST_COUNT)) {
            return BAD_VALUE;
        }
        recordState();
        int previous = facts.most;
        facts.most = most;
        return previous;
    }

    public int fact(int form, int a, int b, int c, int d, int e) {
        if (!facts.ask(form, a, b, c, d, e)) {
            return BAD_VALUE;
        }
        if (facts.isFull()) {
            return TOO_MANY;
        }
        recordState();
        return facts.keepAsked();
    }

    public int drop(int fact) {
        if (!facts.has(fact)) {
            return NO_SUCH;
        }
        recordState();
        facts.remove(fact);
        return facts.known;
    }

    // ---- what there is

    public int ofFact(int fact, int what) {
        if (!facts.has(fact)) {
            return NO_SUCH;
        }
        if (!isWithin(what, 0, Facts.NUMBERS - 1)) {
            return BAD_VALUE;
        }
        int number = facts.number(fact, what);
        return what == Facts.E ? number + 100 : number;
    }

    public int count(int what) {
        switch (what) {
            case 0:
                return facts.known;
            case 1:
                return facts.most;
            case 2:
                return pad.length;
            case 3:
                return historySize;
            default:
                return BAD_VALUE;
        }
    }

    // ---- what follows; nothing changes

    public int isPossible() {
        return logic.canHold(facts, facts.all()) ? 1 : 0;
    }

    public int bound(int bag, int kind, int what) {
        int refusal = refusalOfBound(bag, kind, what);
        return refusal != 0 ? refusal : logic.extreme(facts, facts.all(), Search.variable(bag, kind), what == 1);
    }

    public int sizeOf(int bag, int what) {
        int refusal = refusalOfBound(bag, 0, what);
        return refusal != 0 ? refusal : logic.extreme(facts, facts.all(), Search.variable(bag, Search.SIZES), what == 1);
    }

    public int least(int bag, int kind) {
        if (!isBag(bag) || !isKind(kind)) {
            return NO_SUCH;
        }
        return logic.inLeastSolution(facts, Search.variable(bag, kind));
    }

    public int solutions(int limit) {
        if (!isWithin(limit, 1, MOST_LIMIT)) {
            return BAD_VALUE;
        }
        return logic.howMany(facts, limit);
    }

    public int follows(int form, int a, int b, int c, int d, int e) {
        if (!facts.ask(form, a, b, c, d, e)) {
            return BAD_VALUE;
        }
        if (!logic.canHold(facts, facts.all())) {
            return NONE;
        }
        if (!logic.canFail(facts, Facts.ASKED, facts.all())) {
            return 1;
        }
        return logic.canHold(facts, facts.all() | 1 << Facts.ASKED) ? 2 : 0;
    }

    public int contradiction() {
        int kept = facts.all();
        if (logic.canHold(facts, kept)) {
            return NONE;
        }
        for (int fact = 0; fact < facts.known; fact++) {
            int without = kept & ~(1 << fact);
            if (!logic.canHold(facts, without)) {
                kept = without;
            }
        }
        return kept;
    }

    public int reason(int bag, int kind, int what) {
        int refusal = refusalOfBound(bag, kind, what);
        if (refusal != 0) {
            return refusal;
        }
        int kept = facts.all();
        int variable = Search.variable(bag, kind);
        int bound = logic.extreme(facts, kept, variable, what == 1);
        if (bound == NONE) {
            return NONE;
        }
        for (int fact = 0; fact < facts.known; fact++) {
            int without = kept & ~(1 << fact);
            if (logic.extreme(facts, without, variable, what == 1) == bound) {
                kept = without;
            }
        }
        return kept;
    }

    public int needless() {
        int all = facts.all();
        if (!logic.canHold(facts, all)) {
            return NONE;
        }
        int found = 0;
        for (int fact = 0; fact < facts.known; fact++) {
            if (!logic.canFail(facts, fact, all & ~(1 << fact))) {
                found |= 1 << fact;
            }
        }
        return found;
    }

    // ---- texts

    public int put(long characters) {
        int added = Pad.lengthOf(characters);
        if (added == 0) {
            return BAD_VALUE;
        }
        if (!pad.hasRoomFor(added)) {
            return TOO_MANY;
        }
        pad.append(characters, added);
        return pad.length;
    }

    public int wipe() {
        return pad.clear();
    }

    public int fault() {
        return pad.firstFault();
    }

    public int tell() {
        if (pad.firstFault() != NONE) {
            return BAD_TEXT;
        }
        recordState();
        int told = pad.tellAll(facts);
        pad.clear();
        return told;
    }

    // ---- undo, saving

    public int undo() {
        if (historySize == 0) {
            return NOT_POSSIBLE;
        }
        historySize--;
        history.load(historySize, facts);
        return historySize;
    }

    public int save(int slot) {
        if (!isWithin(slot, 0, SLOTS - 1)) {
            return BAD_VALUE;
        }
        slots.store(slot, facts);
        filledSlots |= 1 << slot;
        return facts.known;
    }

    public int restore(int slot) {
        if (!isWithin(slot, 0, SLOTS - 1)) {
            return BAD_VALUE;
        }
        if ((filledSlots & (1 << slot)) == 0) {
            return NOT_POSSIBLE;
        }
        recordState();
        slots.load(slot, facts);
        return facts.known;
    }

    private void recordState() {
        if (historySize == UNDOABLE) {
            history.dropFirst();
            historySize--;
        }
        history.store(historySize, facts);
        historySize++;
    }

    private static int refusalOfBound(int bag, int kind, int what) {
        if (!isBag(bag) || !isKind(kind)) {
            return NO_SUCH;
        }
        return isWithin(what, 0, 1) ? 0 : BAD_VALUE;
    }

    private static boolean isBag(int number) {
        return isWithin(number, 0, BAGS - 1);
    }

    private static boolean isKind(int number) {
        return isWithin(number, 0, KINDS - 1);
    }

    private static boolean isWithin(int number, int first, int last) {
        return number >= first && number <= last;
    }

    /** MOST and the facts: all that undo and the slots keep. */
    private static final class Facts {
        static final int LIMIT = 10;
        static final int NUMBERS = 6;
        static final int FORM = 0, A = 1, B = 2, C = 3, D = 4, E = 5;
        /** The row behind the last fact holds one that is only asked about, or that is about to be told. */
        static final int ASKED = LIMIT;
        static final int CELLS = 2 + LIMIT * NUMBERS;

        private final int[] numbers = new int[(LIMIT + 1) * NUMBERS];
        private int known;
        private int most = 4;

        boolean has(int fact) {
            return fact >= 0 && fact < known;
        }

        boolean isFull() {
            return known >= LIMIT;
        }

        int all() {
            return (1 << known) - 1;
        }

        int number(int fact, int what) {
            return isWithin(fact, 0, ASKED) && isWithin(what, 0, NUMBERS - 1) ? numbers[fact * NUMBERS + what] : 0;
        }

        boolean ask(int form, int a, int b, int c, int d, int e) {
            if (!isFact(form, a, b, c, d, e)) {
                return false;
            }
            int at = ASKED * NUMBERS;
            numbers[at + FORM] = form;
            numbers[at + A] = a;
            numbers[at + B] = b;
            numbers[at + C] = c;
            numbers[at + D] = d;
            numbers[at + E] = e;
            return true;
        }

        int keepAsked() {
            if (isFull()) {
                return TOO_MANY;
            }
            System.arraycopy(numbers, ASKED * NUMBERS, numbers, known * NUMBERS, NUMBERS);
            known++;
            return known - 1;
        }

        void remove(int fact) {
            if (!has(fact)) {
                return;
            }
            int at = fact * NUMBERS;
            System.arraycopy(numbers, at + NUMBERS, numbers, at, known * NUMBERS - at - NUMBERS);
            known--;
        }

        void writeTo(int[] cells, int at) {
            cells[at] = most;
            cells[at + 1] = known;
            System.arraycopy(numbers, 0, cells, at + 2, CELLS - 2);
        }

        void readFrom(int[] cells, int at) {
            most = cells[at];
            known = cells[at + 1];
            System.arraycopy(cells, at + 2, numbers, 0, CELLS - 2);
        }

        private static boolean isFact(int form, int a, int b, int c, int d, int e) {
            if (!isBag(a)) {
                return false;
            }
            switch (form) {
                case COUNT:
                    return isKind(b) && isRange(c, d, MOST_COUNT) && e == 0;
                case SIZE:
                    return isRange(b, c, MOST_SIZE) && d == 0 && e == 0;
                case SUM:
                case GREATEST:
                case LEAST:
                    return isBag(b) && isBag(c) && d == 0 && e == 0;
                case WITHIN:
                    return isBag(b) && c == 0 && d == 0 && e == 0;
                case MORE:
                    return isKind(b) && isBag(c) && isKind(d) && isWithin(e, -MOST_COUNT, MOST_COUNT);
                default:
                    return false;
            }
        }

        private static boolean isRange(int first, int last, int limit) {
            return first >= 0 && first <= last && last <= limit;
        }
    }

    /** Rows of states: the history, or the slots. */
    private static final class States {
        private final int rows;
        private final int[] cells;

        States(int rows) {
            this.rows = rows;
            cells = new int[rows * Facts.CELLS];
        }

        void store(int row, Facts facts) {
            if (isWithin(row, 0, rows - 1)) {
                facts.writeTo(cells, row * Facts.CELLS);
            }
        }

        void load(int row, Facts facts) {
            if (isWithin(row, 0, rows - 1)) {
                facts.readFrom(cells, row * Facts.CELLS);
            }
        }

        void dropFirst() {
            System.arraycopy(cells, Facts.CELLS, cells, 0, (rows - 1) * Facts.CELLS);
        }
    }

    /** The pad, and the reading of its facts from left to right. */
    private static final class Pad {
        private static final int ROOM = 80;
        private static final int MOST_PUT = 8;
        private static final int FIRST_CODE = 33, LAST_CODE = 126;

        private final char[] text = new char[ROOM];
        private int length;
        /** Where the reading stands: if it fails, the fault. */
        private int at;
        private int form, a, b, c, d, e;

        /** How many characters a number gives to put(), 0 if it is not fit for it. */
        static int lengthOf(long characters) {
            int length = 0;
            long rest = characters;
            for (int i = 0; i < MOST_PUT && rest != 0; i++) {
                int code = (int) (rest & 255);
                if (!isWithin(code, FIRST_CODE, LAST_CODE)) {
                    return 0;
                }
                length++;
                rest >>>= 8;
            }
            return length;
        }

        boolean hasRoomFor(int more) {
            return more <= ROOM - length;
        }

        void append(long characters, int added) {
            if (!hasRoomFor(added)) {
                return;
            }
            long rest = characters;
            for (int i = length + added - 1; i >= length; i--) {
                text[i] = (char) (rest & 255);
                rest >>>= 8;
            }
            length += added;
        }

        int clear() {
            int previous = length;
            length = 0;
            return previous;
        }

        int firstFault() {
            at = 0;
            for (int i = 0; i < ROOM; i++) {
                if (!readFact()) {
                    return at;
                }
                if (at == length) {
                    return NONE;
                }
                if (!skip(';')) {
                    return at;
                }
            }
            return at;
        }

        /** Tells the facts of a pad without a fault, up to one that is refused. */
        int tellAll(Facts facts) {
            at = 0;
            int told = 0;
            for (int i = 0; i < ROOM && readFact(); i++) {
                if (!facts.ask(form, a, b, c, d, e) || facts.isFull()) {
                    return told;
                }
                facts.keepAsked();
                told++;
                if (!skip(';')) {
                    return told;
                }
            }
            return told;
        }

        private boolean readFact() {
            c = 0;
            d = 0;
            e = 0;
            if (skip('#')) {
                return readSize();
            }
            a = take('A', 'D');
            if (a < 0) {
                return false;
            }
            b = take('x', 'z');
            if (b >= 0) {
                return readOfKind();
            }
            if (skip('<')) {
                form = WITHIN;
                b = take('A', 'D');
                return b >= 0;
            }
            return readOfThreeBags();
        }

        private boolean readSize() {
            form = SIZE;
            a = take('A', 'D');
            if (a < 0 || !skip('=')) {
                return false;
            }
            b = takeNumber();
            c = takeRangeEnd(b);
            return c >= 0;
        }

        private boolean readOfThreeBags() {
            form = takeSign();
            if (form < 0) {
                return false;
            }
            b = a;
            c = take('A', 'D');
            if (c < 0 || !skip('=')) {
                return false;
            }
            a = take('A', 'D');
            return a >= 0;
        }

        private boolean readOfKind() {
            if (skip('=')) {
                form = COUNT;
                c = takeNumber();
                d = takeRangeEnd(c);
                return d >= 0;
            }
            form = MORE;
            if (!skip('>')) {
                return false;
            }
            c = take('A', 'D');
            if (c < 0) {
                return false;
            }
            d = take('x', 'z');
            return d >= 0 && readDifference();
        }

        private boolean readDifference() {
            if (skip('+')) {
                e = take('0', '6');
                return e >= 0;
            }
            if (skip('-')) {
                int digit = take('0', '6');
                e = -digit;
                return digit >= 0;
            }
            return true;
        }

        private int takeSign() {
            if (skip('+')) {
                return SUM;
            }
            if (skip('|')) {
                return GREATEST;
            }
            return skip('&') ? LEAST : -1;
        }

        private int takeRangeEnd(int first) {
            if (first < 0) {
                return -1;
            }
            return skip('-') ? takeNumber() : first;
        }

        /** Takes no digit behind which the number would be above 18: that digit is the fault. */
        private int takeNumber() {
            int first = take('0', '9');
            if (first != 1) {
                return first;
            }
            int second = take('0', '8');
            return second < 0 ? 1 : 10 + second;
        }

        private boolean skip(char sign) {
            return take(sign, sign) == 0;
        }

        /** Takes the next character if it is one from first to last, and tells which; else -1. */
        private int take(char first, char last) {
            if (at < 0 || at >= length || at >= ROOM) {
                return -1;
            }
            char next = text[at];
            if (next < first || next > last) {
                return -1;
            }
            at++;
            return next - first;
        }
    }

    /**
     * Rules about up to four of the sixteen variables: that a sum of multiples is within a range, or that one
     * variable is the greater (TOP) or the lesser (BOTTOM) of two others.
     */
    private static final class Rules {
        static final int LINEAR = 0, TOP = 1, BOTTOM = 2;
        static final int TERMS = 4;
        /** The sizes give at most four rules, the gaps 60, eleven facts four each, and a fact's opposite two. */
        static final int LIMIT = 128;

        private final int[] type = new int[LIMIT];
        private final int[] low = new int[LIMIT];
        private final int[] high = new int[LIMIT];
        /** The variables of a rule, as a set. */
        private final int[] mask = new int[LIMIT];
        private final int[] terms = new int[LIMIT];
        private final int[] variable = new int[LIMIT * TERMS];
        private final int[] factor = new int[LIMIT * TERMS];
        /** In how many rules a variable stands. */
        private final int[] weight = new int[Search.VARIABLES];
        private int size;

        void clear() {
            size = 0;
            for (int v = 0; v < Search.VARIABLES; v++) {
                weight[v] = 0;
            }
        }

        /** The size of a bag is the sum of its counts. */
        void total(int bag) {
            open(LINEAR, 0, 0);
            for (int kind = 0; kind < KINDS; kind++) {
                plus(1, Search.variable(bag, kind));
            }
            plus(-1, Search.variable(bag, Search.SIZES));
        }

        /** The first variable less the other is at least so much. */
        void difference(int greater, int lesser, int least) {
            open(LINEAR, least, MOST_SIZE);
            plus(1, greater);
            plus(-1, lesser);
        }

        /** The first variable less the two others is within a range. */
        void sum(int whole, int one, int other, int least, int greatest) {
            open(LINEAR, least, greatest);
            plus(1, whole);
            plus(-1, one);
            plus(-1, other);
        }

        void choice(int newType, int chosen, int one, int other) {
            open(newType, 0, 0);
            addTerm(1, chosen);
            addTerm(1, one);
            addTerm(1, other);
        }

        private void open(int newType, int least, int greatest) {
            if (size >= LIMIT) {
                return;
            }
            type[size] = newType;
            low[size] = least;
            high[size] = greatest;
            mask[size] = 0;
            terms[size] = 0;
            size++;
        }

        /** Adds a multiple of a variable to the latest rule; the same variable twice would be narrowed less. */
        private void plus(int times, int v) {
            int rule = size - 1;
            if (rule < 0) {
                return;
            }
            for (int t = rule * TERMS; t < rule * TERMS + terms[rule]; t++) {
                if (variable[t] == v) {
                    factor[t] += times;
                    return;
                }
            }
            addTerm(times, v);
        }

        private void addTerm(int times, int v) {
            int rule = size - 1;
            if (rule < 0 || terms[rule] >= TERMS || v < 0 || v >= Search.VARIABLES) {
                return;
            }
            int t = rule * TERMS + terms[rule];
            variable[t] = v;
            factor[t] = times;
            terms[rule]++;
            mask[rule] |= 1 << v;
            weight[v]++;
        }
    }

    /**
     * Looks for what the variables can be: the counts, and the sizes if something asks for them. Each level of the
     * search has its own row of ranges; a step to the next level gives one more variable a value and narrows the
     * others. Variables that no rule joins any more are looked at apart from one another, so that one part's many
     * solutions are not gone through for another's lack of one.
     */
    private static final class Search {
        static final int COLUMNS = KINDS + 1;
        /** The column of the sizes, behind those of the kinds. */
        static final int SIZES = KINDS;
        static final int VARIABLES = BAGS * COLUMNS;
        private static final int EVERY = (1 << VARIABLES) - 1;
        /** The counts of the kind 0, as a set of variables. */
        private static final int FIRST_KIND = 0x1111;
        private static final int LEVELS = VARIABLES + 1;
        /** More than all values that all variables can lose. */
        private static final int PASSES = 1000;

        private final Rules rules = new Rules();
        private final int[] low = new int[LEVELS * VARIABLES];
        private final int[] high = new int[LEVELS * VARIABLES];
        private boolean withSizes;
        /** The variables that a pass over the rules has narrowed, as a set. */
        private int narrowed;

        static int variable(int bag, int column) {
            return bag * COLUMNS + column;
        }

        /** Sizes that nothing asks for would only join the kinds: they stand still, and no rule tells of them. */
        void begin(int most, boolean hasSizes) {
            rules.clear();
            withSizes = hasSizes;
            for (int v = 0; v < VARIABLES; v++) {
                low[v] = 0;
                high[v] = v % COLUMNS != SIZES ? most : hasSizes ? KINDS * most : 0;
            }
            for (int bag = 0; bag < BAGS && hasSizes; bag++) {
                rules.total(bag);
            }
        }

        /** Narrows a variable ahead of the search, perhaps to nothing. */
        void restrict(int v, int least, int greatest) {
            if (isWithin(v, 0, VARIABLES - 1)) {
                low[v] = Math.max(low[v], least);
                high[v] = Math.min(high[v], greatest);
            }
        }

        /** Narrows all variables by all rules; false if one of them can have no value. */
        boolean settleAll() {
            for (int v = 0; v < VARIABLES; v++) {
                if (low[v] > high[v]) {
                    return false;
                }
            }
            return settle(0, EVERY);
        }

        /** Gives a variable, of which canBe() told that it can have the value, that value for good. */
        void settleOn(int v, int value) {
            restrict(v, value, value);
            settle(0, 1 << v);
        }

        int howMany(int limit) {
            return settleAll() ? waysFrom(0, limit) : 0;
        }

        boolean canBe(int v, int value) {
            fix(0, v, value);
            return settle(1, 1 << v) && waysFrom(1, 1) != 0;
        }

        /** If one kind fails by itself, that shall not be found again for all that the other kinds can be. */
        private int waysFrom(int level, int limit) {
            for (int kind = 0; kind < KINDS && withSizes; kind++) {
                if (ways(this, level, FIRST_KIND << kind, 1) == 0) {
                    return 0;
                }
            }
            return ways(this, level, EVERY, limit);
        }

        /** How many solutions the variables of a set have at a level, up to a limit. */
        private static int ways(Search s, int level, int among, int limit) {
            int open = s.unfixed(level, among);
            if (level < 0 || level >= LEVELS - 1) {
                return open == 0 ? 1 : 0;
            }
            int found = 1;
            for (int i = 0; i < VARIABLES && open != 0; i++) {
                int part = s.partOf(level, open);
                open &= ~part;
                int v = s.choose(level, part);
                int last = s.high[level * VARIABLES + v];
                int wanted = found < limit ? limit : 1;
                int ofPart = 0;
                for (int value = s.low[level * VARIABLES + v]; value <= last && ofPart < wanted; value++) {
                    s.fix(level, v, value);
                    if (s.settle(level + 1, 1 << v)) {
                        ofPart += ways(s, level + 1, part & ~(1 << v), wanted - ofPart);
                    }
                }
                if (ofPart == 0) {
                    return 0;
                }
                found = Math.min(limit, found * ofPart);
            }
            return found;
        }

        private int unfixed(int level, int among) {
            int open = 0;
            for (int v = 0; v < VARIABLES; v++) {
                int cell = level * VARIABLES + v;
                if (low[cell] < high[cell]) {
                    open |= 1 << v;
                }
            }
            return open & among;
        }

        /** The first variable of a set, and those of the set that rules join with it, also over others. */
        private int partOf(int level, int open) {
            int part = open & -open;
            int before = 0;
            for (int i = 0; i < VARIABLES && part != before; i++) {
                before = part;
                for (int rule = 0; rule < rules.size; rule++) {
                    int joined = rules.mask[rule] & open;
                    if ((joined & part) != 0 && (joined & ~part) != 0 && !isSure(rule, level * VARIABLES)) {
                        part |= joined;
                    }
                }
            }
            return part;
        }

        /** The variable with the fewest values, seen against the number of its rules: it fails soonest. */
        private int choose(int level, int part) {
            int best = 0;
            int bestWidth = 0;
            for (int v = 0; v < VARIABLES; v++) {
                if ((part & (1 << v)) != 0) {
                    int width = high[level * VARIABLES + v] - low[level * VARIABLES + v] + 1;
                    if (bestWidth == 0 || width * rules.weight[best] < bestWidth * rules.weight[v]) {
                        best = v;
                        bestWidth = width;
                    }
                }
            }
            return best;
        }

        /** Makes the next level: the same ranges, but for a variable that has a value there. */
        private void fix(int level, int v, int value) {
            int from = level * VARIABLES;
            int to = from + VARIABLES;
            System.arraycopy(low, from, low, to, VARIABLES);
            System.arraycopy(high, from, high, to, VARIABLES);
            low[to + v] = value;
            high[to + v] = value;
        }

        /** Narrows a level's ranges by the rules of the changed variables, and so on; false if one gets empty. */
        private boolean settle(int level, int changed) {
            int row = level * VARIABLES;
            for (int pass = 0; pass < PASSES && changed != 0; pass++) {
                narrowed = 0;
                for (int rule = 0; rule < rules.size; rule++) {
                    if ((rules.mask[rule] & changed) != 0) {
                        boolean isLinear = rules.type[rule] == Rules.LINEAR;
                        if (isLinear ? !tightenLinear(rule, row) : !tightenChoice(rule, row)) {
                            return false;
                        }
                    }
                }
                changed = narrowed;
            }
            return true;
        }

        private boolean tightenLinear(int rule, int row) {
            int first = rule * Rules.TERMS;
            int end = first + rules.terms[rule];
            int least = 0;
            int greatest = 0;
            for (int t = first; t < end; t++) {
                least += leastTerm(t, row);
                greatest += greatestTerm(t, row);
            }
            for (int t = first; t < end; t++) {
                int restLeast = least - leastTerm(t, row);
                int restGreatest = greatest - greatestTerm(t, row);
                int cell = row + rules.variable[t];
                if (!keep(cell, rules.factor[t], rules.low[rule] - restGreatest, rules.high[rule] - restLeast)) {
                    return false;
                }
                least = restLeast + leastTerm(t, row);
                greatest = restGreatest + greatestTerm(t, row);
            }
            return true;
        }

        /** If one of the two can not be what is chosen, it is the other. */
        private boolean tightenChoice(int rule, int row) {
            int first = rule * Rules.TERMS;
            int a = row + rules.variable[first];
            int b = row + rules.variable[first + 1];
            int c = row + rules.variable[first + 2];
            if (rules.type[rule] == Rules.TOP) {
                return keep(a, 1, Math.max(low[b], low[c]), Math.max(high[b], high[c]))
                        && keep(b, 1, high[c] < low[a] ? low[a] : 0, high[a])
                        && keep(c, 1, high[b] < low[a] ? low[a] : 0, high[a]);
            }
            return keep(a, 1, Math.min(low[b], low[c]), Math.min(high[b], high[c]))
                    && keep(b, 1, low[a], low[c] > high[a] ? high[a] : MOST_SIZE)
                    && keep(c, 1, low[a], low[b] > high[a] ? high[a] : MOST_SIZE);
        }

        /** Whether a rule holds whatever its variables will be. */
        private boolean isSure(int rule, int row) {
            int first = rule * Rules.TERMS;
            int least = 0;
            int greatest = 0;
            for (int t = first; t < first + rules.terms[rule]; t++) {
                least += leastTerm(t, row);
                greatest += greatestTerm(t, row);
            }
            return rules.type[rule] == Rules.LINEAR && least >= rules.low[rule] && greatest <= rules.high[rule];
        }

        private int leastTerm(int t, int row) {
            int cell = row + rules.variable[t];
            return rules.factor[t] * (rules.factor[t] > 0 ? low[cell] : high[cell]);
        }

        private int greatestTerm(int t, int row) {
            int cell = row + rules.variable[t];
            return rules.factor[t] * (rules.factor[t] > 0 ? high[cell] : low[cell]);
        }

        /** Keeps the values of a variable of which a multiple is within a range; false if there is none. */
        private boolean keep(int cell, int factor, int least, int greatest) {
            int from = low[cell];
            int to = high[cell];
            while (from <= to && (factor * from < least || factor * from > greatest)) {
                from++;
            }
            while (from <= to && (factor * to < least || factor * to > greatest)) {
                to--;
            }
            if (from > to) {
                return false;
            }
            if (from != low[cell] || to != high[cell]) {
                low[cell] = from;
                high[cell] = to;
                narrowed |= 1 << cell % VARIABLES;
            }
            return true;
        }
    }

    /**
     * By kinds: how far one bag's count can be above another's, so far as the facts about whole bags and those
     * that compare counts of one kind tell. So bags are found to be within others, or the same, without going
     * through all that their counts can be, and their sizes can be compared.
     */
    private static final class Gaps {
        private static final int PASSES = 1000;

        private final int[] gaps = new int[KINDS * BAGS * BAGS];
        private int most;
        private boolean isNarrowed;

        void close(Facts facts, int set) {
            most = facts.most;
            for (int i = 0; i < gaps.length; i++) {
                gaps[i] = i / BAGS % BAGS == i % BAGS ? 0 : most;
            }
            isNarrowed = true;
            for (int pass = 0; pass < PASSES && isNarrowed; pass++) {
                isNarrowed = false;
                for (int fact = 0; fact <= Facts.ASKED; fact++) {
                    if ((set & (1 << fact)) != 0) {
                        apply(facts, fact);
                    }
                }
                for (int kind = 0; kind < KINDS && isNarrowed; kind++) {
                    chain(kind);
                }
            }
        }

        void addTo(Rules rules, boolean hasSizes) {
            for (int one = 0; one < BAGS; one++) {
                for (int other = 0; other < BAGS; other++) {
                    int total = 0;
                    for (int kind = 0; kind < KINDS; kind++) {
                        int gap = of(kind, one, other);
                        total += gap;
                        if (gap < (one == other ? 0 : most)) {
                            rules.difference(Search.variable(other, kind), Search.variable(one, kind), -gap);
                        }
                    }
                    if (hasSizes && one != other && total < KINDS * most) {
                        rules.difference(Search.variable(other, Search.SIZES), Search.variable(one, Search.SIZES), -total);
                    }
                }
            }
        }

        private int of(int kind, int one, int other) {
            return gaps[(kind * BAGS + one) * BAGS + other];
        }

        /** A gap that no counts have is a contradiction already, and gets no smaller: so the passes end. */
        private void narrow(int kind, int one, int other, int gap) {
            int i = (kind * BAGS + one) * BAGS + other;
            if (gap < gaps[i] && gaps[i] >= -most) {
                gaps[i] = gap;
                isNarrowed = true;
            }
        }

        private void chain(int kind) {
            for (int middle = 0; middle < BAGS; middle++) {
                for (int one = 0; one < BAGS; one++) {
                    for (int other = 0; other < BAGS; other++) {
                        narrow(kind, one, other, of(kind, one, middle) + of(kind, middle, other));
                    }
                }
            }
        }

        private void apply(Facts facts, int fact) {
            int form = facts.number(fact, Facts.FORM);
            int a = facts.number(fact, Facts.A);
            int b = facts.number(fact, Facts.B);
            int c = facts.number(fact, Facts.C);
            if (form == MORE && b == facts.number(fact, Facts.D)) {
                narrow(b, c, a, -facts.number(fact, Facts.E));
            }
            for (int kind = 0; kind < KINDS; kind++) {
                if (form == WITHIN || form == LEAST) {
                    narrow(kind, a, b, 0);
                }
                if (form == LEAST) {
                    narrow(kind, a, c, 0);
                }
                if (form == SUM || form == GREATEST) {
                    narrow(kind, b, a, 0);
                    narrow(kind, c, a, 0);
                }
                for (int bag = 0; bag < BAGS; bag++) {
                    if (form == GREATEST) {
                        narrow(kind, a, bag, Math.max(of(kind, b, bag), of(kind, c, bag)));
                    } else if (form == LEAST) {
                        narrow(kind, bag, a, Math.max(of(kind, bag, b), of(kind, bag, c)));
                    }
                }
            }
        }
    }

    /** Answers what follows from a set of facts, given as a bit mask, by searches for solutions. */
    private static final class Logic {
        /** By forms: in how many ways a fact can fail to hold. */
        private static final int[] OPPOSITES = {2, 2, 6, 9, 9, 3, 1};

        private final Search search = new Search();
        private final Gaps gaps = new Gaps();

        boolean canHold(Facts facts, int set) {
            load(facts, set, false);
            return search.howMany(1) != 0;
        }

        /** Whether a fact can fail to hold if the facts of a set hold. */
        boolean canFail(Facts facts, int fact, int set) {
            int form = facts.number(fact, Facts.FORM);
            int opposites = isWithin(form, COUNT, MORE) ? OPPOSITES[form] : 0;
            for (int way = 0; way < opposites; way++) {
                load(facts, set, form == SIZE);
                addOpposite(facts, fact, way);
                if (search.howMany(1) != 0) {
                    return true;
                }
            }
            return false;
        }

        int howMany(Facts facts, int limit) {
            load(facts, facts.all(), false);
            return search.howMany(limit);
        }

        /** The least or greatest value of a variable if the facts of a set hold. */
        int extreme(Facts facts, int set, int v, boolean isGreatest) {
            load(facts, set, v % Search.COLUMNS == Search.SIZES);
            if (!search.settleAll()) {
                return NONE;
            }
            int from = search.low[v];
            int to = search.high[v];
            for (int i = 0; i <= to - from; i++) {
                int value = isGreatest ? to - i : from + i;
                if (search.canBe(v, value)) {
                    return value;
                }
            }
            return NONE;
        }

        /** Gives the counts their least values, one after the other, up to the one that is asked for. */
        int inLeastSolution(Facts facts, int asked) {
            load(facts, facts.all(), false);
            if (search.howMany(1) == 0) {
                return NONE;
            }
            for (int v = 0; v <= asked; v++) {
                int last = search.high[v];
                for (int value = search.low[v]; value < last; value++) {
                    if (search.canBe(v, value)) {
                        last = value;
                    }
                }
                search.settleOn(v, last);
            }
            return search.low[asked];
        }

        private void load(Facts facts, int set, boolean asksForSizes) {
            boolean hasSizes = asksForSizes || hasSizeFact(facts, set);
            search.begin(facts.most, hasSizes);
            gaps.close(facts, set);
            gaps.addTo(search.rules, hasSizes);
            for (int fact = 0; fact <= Facts.ASKED; fact++) {
                if ((set & (1 << fact)) != 0) {
                    addFact(facts, fact, hasSizes);
                }
            }
        }

        private boolean hasSizeFact(Facts facts, int set) {
            for (int fact = 0; fact <= Facts.ASKED; fact++) {
                if ((set & (1 << fact)) != 0 && facts.number(fact, Facts.FORM) == SIZE) {
                    return true;
                }
            }
            return false;
        }

        /** Adds what the gaps do not tell of a fact. */
        private void addFact(Facts facts, int fact, boolean hasSizes) {
            int form = facts.number(fact, Facts.FORM);
            int a = facts.number(fact, Facts.A);
            int b = facts.number(fact, Facts.B);
            int c = facts.number(fact, Facts.C);
            int d = facts.number(fact, Facts.D);
            if (form == COUNT) {
                search.restrict(Search.variable(a, b), c, d);
            } else if (form == SIZE) {
                search.restrict(Search.variable(a, Search.SIZES), b, c);
            } else if (form == MORE && b != d) {
                int e = facts.number(fact, Facts.E);
                search.rules.difference(Search.variable(a, b), Search.variable(c, d), e);
            } else if (form == SUM || form == GREATEST || form == LEAST) {
                for (int column = 0; column < (hasSizes ? Search.COLUMNS : KINDS); column++) {
                    addColumn(form, column, a, b, c);
                }
            }
        }

        /** What a fact about three bags says of one kind, or, if it is a SUM, of the sizes. */
        private void addColumn(int form, int column, int bagA, int bagB, int bagC) {
            int a = Search.variable(bagA, column);
            int b = Search.variable(bagB, column);
            int c = Search.variable(bagC, column);
            if (form == SUM) {
                search.rules.sum(a, b, c, 0, 0);
            } else if (column != Search.SIZES) {
                search.rules.choice(form == GREATEST ? Rules.TOP : Rules.BOTTOM, a, b, c);
            }
        }

        private void addOpposite(Facts facts, int fact, int way) {
            int form = facts.number(fact, Facts.FORM);
            int a = facts.number(fact, Facts.A);
            int b = facts.number(fact, Facts.B);
            int c = facts.number(fact, Facts.C);
            int d = facts.number(fact, Facts.D);
            if (form == COUNT) {
                restrictOutside(Search.variable(a, b), c, d, way);
            } else if (form == SIZE) {
                restrictOutside(Search.variable(a, Search.SIZES), b, c, way);
            } else if (form == MORE) {
                int e = facts.number(fact, Facts.E);
                search.rules.difference(Search.variable(c, d), Search.variable(a, b), 1 - e);
            } else {
                int kind = way % KINDS;
                addOppositeOfKind(form, way / KINDS, Search.variable(a, kind), Search.variable(b, kind),
                        Search.variable(c, kind));
            }
        }

        private void restrictOutside(int v, int first, int last, int way) {
            if (way == 0) {
                search.restrict(v, 0, first - 1);
            } else {
                search.restrict(v, last + 1, MOST_SIZE);
            }
        }

        /** The ways 0 and 1 are one comparison each; the way 2 is that a is beyond both b and c. */
        private void addOppositeOfKind(int form, int way, int a, int b, int c) {
            Rules rules = search.rules;
            int other = way == 0 ? b : c;
            if (form == WITHIN) {
                rules.difference(a, b, 1);
            } else if (form == SUM) {
                rules.sum(a, b, c, way == 0 ? 1 : -MOST_SIZE, way == 0 ? MOST_SIZE : -1);
            } else if (way < 2) {
                rules.difference(form == GREATEST ? other : a, form == GREATEST ? a : other, 1);
            } else if (form == GREATEST) {
                rules.difference(a, b, 1);
                rules.difference(a, c, 1);
            } else {
                rules.difference(b, a, 1);
                rules.difference(c, a, 1);
            }
        }
    }
}
