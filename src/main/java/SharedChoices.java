import java.util.Arrays;
import java.util.NoSuchElementException;

/**
 * A store of things that may be one or another: numbers, choices, pairs, sums, tests, sets of
 * values; and a search that tells what one of them is worth, for each way to choose.
 */
public final class SharedChoices {
    public static final int NONE = -1;

    private static final int MOST_NODES = 60;
    private static final int MOST_LABOUR = 2000;
    private static final int MOST_TOKENS = 100;
    private static final int MOST_SETS = 5;
    private static final int MOST_PLACES = 200;
    private static final int MOST_BOUND = 60;

    private static final int NUMBER = 0;
    private static final int CHOICE = 1;
    private static final int FAIL = 2;
    private static final int PAIR = 3;
    private static final int FIRST = 4;
    private static final int SECOND = 5;
    private static final int OP = 6;
    private static final int WHEN = 7;
    private static final int SET = 8;
    private static final int FOLD = 9;

    private static final int SUM = 0;
    private static final int DIFFERENCE = 1;
    private static final int PRODUCT = 2;
    private static final int QUOTIENT = 3;
    private static final int LESS = 4;
    private static final int SAME = 5;

    private static final int HOW_MANY = 0;
    private static final int SUM_OF_ALL = 1;
    private static final int LEAST = 2;

    private static final int WINDOWS = 1;
    private static final int BOUNDED = 2;

    // What a value or a token is; the numbers are those that token(k, 0) tells.
    private static final int A_NUMBER = 0;
    private static final int A_PAIR = 1;
    private static final int A_LIST = 2;

    // How the working out of a node, and so a way, may end.
    private static final int DONE = 0;
    private static final int FAILED = 1;
    private static final int GIVEN_UP = 2;
    /** At a DECISION that the SEARCH does not let its way take now. */
    private static final int STOPPED = 3;
    /** At an OUTSIDE node that has no value yet in the way to which it is INSIDE. */
    private static final int NEEDED = 4;

    // What next answers.
    private static final int NO_MORE = 0;
    private static final int A_VALUE = 1;
    private static final int IS_SPENT = 2;

    private final Nodes nodes;
    private final Search search;

    public SharedChoices() {
        Nodes made = new Nodes();
        nodes = made;
        search = new Search(made);
    }

    public int number(long v) {
        return nodes.addNumber(v);
    }

    public int choice(int a, int b) throws IllegalArgumentException {
        demand(nodes.has(a) && nodes.has(b));
        return nodes.add(CHOICE, a, b, NONE);
    }

    public int fail() {
        return nodes.add(FAIL, NONE, NONE, NONE);
    }

    public int pair(int a, int b) throws IllegalArgumentException {
        demand(nodes.has(a) && nodes.has(b));
        return nodes.add(PAIR, a, b, NONE);
    }

    public int part(int a, boolean second) throws IllegalArgumentException {
        demand(nodes.has(a));
        return nodes.add(second ? SECOND : FIRST, a, NONE, NONE);
    }

    public int op(int kind, int a, int b) throws IllegalArgumentException {
        demand(nodes.has(a) && nodes.has(b) && kind >= SUM && kind <= SAME);
        return nodes.add(OP, a, b, kind);
    }

    public int when(int c, int a, int b) throws IllegalArgumentException {
        demand(nodes.has(c) && nodes.has(a) && nodes.has(b));
        return nodes.add(WHEN, c, a, b);
    }

    public int set(int a, int m) throws IllegalArgumentException {
        demand(nodes.has(a) && m >= 0 && m <= nodes.size());
        return nodes.add(SET, a, m, NONE);
    }

    public int fold(int kind, int a) throws IllegalArgumentException {
        demand(nodes.has(a) && kind >= HOW_MANY && kind <= LEAST);
        return nodes.add(FOLD, a, kind, NONE);
    }

    public int clear() {
        int were = nodes.size();
        nodes.forget();
        search.forget();
        return were;
    }

    public int node(int n, int what) throws NoSuchElementException {
        if (!nodes.has(n) || what < 0 || what > 3) {
            throw new NoSuchElementException("there is no such node, or no such thing to tell of it");
        }
        switch (what) {
            case 0: return nodes.sortOf(n);
            case 1: return nodes.firstOf(n);
            case 2: return nodes.secondOf(n);
            default: return nodes.thirdOf(n);
        }
    }

    public void ask(int n, int mode, int bound) throws IllegalArgumentException {
        demand(nodes.has(n) && mode >= 0 && mode <= BOUNDED && bound >= 1 && bound <= MOST_BOUND);
        search.begin(n, mode, bound);
    }

    public int next() throws IllegalStateException {
        if (!search.isThere()) {
            throw new IllegalStateException("there is no search");
        }
        return search.goOn();
    }

    public int decision(int k) {
        return search.latest().alternativeAt(k);
    }

    public long token(int k, int what) throws NoSuchElementException {
        Tokens tokens = search.latest().tokens();
        if (!tokens.has(k) || what < 0 || what > 1) {
            throw new NoSuchElementException("there is no such token, or no such thing to tell of it");
        }
        return what == 0 ? tokens.kindAt(k) : tokens.numberAt(k);
    }

    public int count(int what) {
        switch (what) {
            case 0: return nodes.size();
            case 1: return search.places();
            case 2: return search.values();
            case 3: return search.failed();
            case 4: return search.givenUp();
            case 5: return search.cut();
            case 6: return search.latest().labour();
            case 7: return search.latest().decisions();
            case 8: return search.latest().tokens().size();
            default: return NONE;
        }
    }

    private static void demand(boolean holds) {
        if (!holds) {
            throw new IllegalArgumentException("there is no such node, kind, mode or bound");
        }
    }

    /** The nodes, by their numbers; what node(n, 1 .. 3) tells is held as it is told. */
    private static final class Nodes {
        private final int[] sorts = new int[MOST_NODES];
        private final int[] firsts = new int[MOST_NODES];
        private final int[] seconds = new int[MOST_NODES];
        private final int[] thirds = new int[MOST_NODES];
        private final long[] numbers = new long[MOST_NODES];
        private int size;

        int size() {
            return size;
        }

        boolean has(int n) {
            return n >= 0 && n < size;
        }

        int add(int sort, int first, int second, int third) {
            if (size >= MOST_NODES) {
                return NONE;
            }
            int n = size;
            sorts[n] = sort;
            firsts[n] = first;
            seconds[n] = second;
            thirds[n] = third;
            size = n + 1;
            return n;
        }

        int addNumber(long v) {
            int n = add(NUMBER, NONE, NONE, NONE);
            if (n >= 0) {
                numbers[n] = v;
            }
            return n;
        }

        int sortOf(int n) {
            return has(n) ? sorts[n] : NONE;
        }

        int firstOf(int n) {
            return has(n) ? firsts[n] : NONE;
        }

        int secondOf(int n) {
            return has(n) ? seconds[n] : NONE;
        }

        int thirdOf(int n) {
            return has(n) ? thirds[n] : NONE;
        }

        long numberOf(int n) {
            return has(n) ? numbers[n] : 0;
        }

        void forget() {
            size = 0;
        }
    }

    /**
     * A row of tokens that grows up to its limit: what values in full are told in. The number of a
     * pair is 2, that of a list how many values it has.
     */
    private static final class Tokens {
        private static final int AT_FIRST = 16;

        private final int limit;
        private int[] kinds = new int[AT_FIRST];
        private long[] numbers = new long[AT_FIRST];
        private int size;

        Tokens(int limit) {
            this.limit = limit;
        }

        int size() {
            return size;
        }

        boolean has(int k) {
            return k >= 0 && k < size;
        }

        int kindAt(int k) {
            return has(k) ? kinds[k] : NONE;
        }

        long numberAt(int k) {
            return has(k) ? numbers[k] : 0;
        }

        void putNumber(int k, long number) {
            if (has(k)) {
                numbers[k] = number;
            }
        }

        /** Whether there was room for it. */
        boolean add(int kind, long number) {
            if (!makeRoom(1)) {
                return false;
            }
            kinds[size] = kind;
            numbers[size] = number;
            size++;
            return true;
        }

        /** Whether there was room for them; none is added if there was not. */
        boolean addFrom(Tokens other, int start, int length) {
            if (start < 0 || length < 0 || length > other.size - start || !makeRoom(length)) {
                return false;
            }
            System.arraycopy(other.kinds, start, kinds, size, length);
            System.arraycopy(other.numbers, start, numbers, size, length);
            size += length;
            return true;
        }

        void cutTo(int length) {
            if (length >= 0 && length < size) {
                size = length;
            }
        }

        private boolean makeRoom(int more) {
            if (more > limit - size) {
                return false;
            }
            int wanted = size + more;
            if (wanted > kinds.length) {
                // Doubling keeps all the rows ever made below twice the last one's length.
                int length = Math.max(wanted, Math.min(limit, 2 * kinds.length));
                kinds = Arrays.copyOf(kinds, length);
                numbers = Arrays.copyOf(numbers, length);
            }
            return true;
        }
    }

    /**
     * What one way holds while it is gone: the values of the nodes INSIDE, the ALTERNATIVES of its
     * DECISIONS, and the tokens told so far. One object serves all ways of the same nesting, one
     * after the other.
     */
    private static final class Way {
        private final Way around;
        private Way inner;
        private int firstInside;

        private final int[] kinds = new int[MOST_NODES];
        private final long[] numbers = new long[MOST_NODES];
        private final int[] lengths = new int[MOST_NODES];

        // Bit k is the ALTERNATIVE at DECISION k; those not led to are 0, the first one's.
        private long alternatives;
        private int decisions;
        private int mostDecisions;

        // Of a SET's ways: its list so far, and behind it the value that is being told.
        private final Tokens tokens = new Tokens(2 * MOST_TOKENS);
        private int valueStart;
        private int listed;

        Way(Way around) {
            this.around = around;
        }

        Way around() {
            return around;
        }

        Way inner() {
            return inner;
        }

        /** Ways for SETS in one another, made once so that no search makes any. */
        void nest(int deep) {
            Way way = this;
            for (int k = 0; k < deep; k++) {
                way.inner = new Way(way);
                way = way.inner;
            }
        }

        Tokens tokens() {
            return tokens;
        }

        int decisions() {
            return decisions;
        }

        int listed() {
            return listed;
        }

        boolean isInside(int n) {
            return n >= firstInside;
        }

        void beginOfSearch(long leading, int most) {
            firstInside = 0;
            alternatives = leading;
            mostDecisions = most;
            tokens.cutTo(0);
            begin();
        }

        void beginOfSet(int m) {
            firstInside = m;
            alternatives = 0;
            mostDecisions = MOST_NODES;
            listed = 0;
            tokens.cutTo(0);
            tokens.add(A_LIST, 0);
            begin();
        }

        private void begin() {
            decisions = 0;
            valueStart = tokens.size();
            Arrays.fill(kinds, NONE);
        }

        /** The told value becomes one of the list. */
        void listValue() {
            listed++;
            tokens.putNumber(0, listed);
        }

        void dropValue() {
            tokens.cutTo(valueStart);
        }

        /** Begins the next way, DEEP; false if this was the last one. */
        boolean turn() {
            for (int k = decisions - 1; k >= 0; k--) {
                long bit = 1L << k;
                if ((alternatives & bit) == 0) {
                    alternatives = (alternatives & (bit - 1)) | bit;
                    begin();
                    return true;
                }
            }
            return false;
        }

        /** The ALTERNATIVE at the DECISION that is come to; NONE if it may not be taken. */
        int decide() {
            if (decisions >= mostDecisions) {
                return NONE;
            }
            int alternative = (int) (alternatives >>> decisions & 1L);
            decisions++;
            return alternative;
        }

        boolean hasValue(int n) {
            return n >= 0 && n < MOST_NODES && kinds[n] != NONE;
        }

        int kindOf(int n) {
            return hasValue(n) ? kinds[n] : NONE;
        }

        long numberOf(int n) {
            return hasValue(n) ? numbers[n] : 0;
        }

        int lengthOf(int n) {
            return hasValue(n) ? lengths[n] : 0;
        }

        void keep(int n, int kind, long number, int length) {
            if (n >= 0 && n < MOST_NODES) {
                kinds[n] = kind;
                numbers[n] = number;
                lengths[n] = length;
            }
        }

        /** Whether the value in full has no more tokens than it may. */
        boolean tell(int kind, long number) {
            return tokens.size() - valueStart < MOST_TOKENS && tokens.add(kind, number);
        }

        boolean tellAll(Tokens from, int start, int length) {
            return tokens.size() - valueStart + length <= MOST_TOKENS && tokens.addFrom(from, start, length);
        }
    }

    /** Goes ways: works out what is needed, and tells values in full. */
    private static final class Work {
        private final Nodes nodes;
        private final Way outermost = new Way(null);
        private Way current = outermost;
        private int labour;

        // All lists that are values of nodes, those of inner ways behind those of outer ones, so
        // that a way's end takes its own away: each way has at most one a node.
        private final Tokens lists = new Tokens((MOST_SETS + 1) * MOST_NODES * MOST_TOKENS);

        // The value that was there last: a number; or the node of a pair; or where a list begins
        // among the lists, and how many tokens it has.
        private int gotKind;
        private long got;
        private int gotLength;

        private int neededNode;
        private Way neededIn = outermost;

        Work(Nodes nodes) {
            this.nodes = nodes;
            outermost.nest(MOST_SETS);
        }

        int labour() {
            return labour;
        }

        int decisions() {
            return outermost.decisions();
        }

        Tokens tokens() {
            return outermost.tokens();
        }

        /** A way of a SEARCH, with leading ALTERNATIVES, then the first ones. */
        int goWay(int n, long leading, int mostDecisions) {
            current = outermost;
            labour = 0;
            lists.cutTo(0);
            outermost.beginOfSearch(leading, mostDecisions);
            return tellInFull(n, n + 1);
        }

        /**
         * Here and in what it calls, below is the node that needs n: nodes name lower ones alone,
         * so that no more than 60 levels stand open.
         */
        private int tellInFull(int n, int below) {
            int end = valueOf(n, below);
            if (end != DONE) {
                return end;
            }
            if (gotKind == A_NUMBER) {
                return current.tell(A_NUMBER, got) ? DONE : GIVEN_UP;
            }
            if (gotKind == A_LIST) {
                return current.tellAll(lists, (int) got, gotLength) ? DONE : GIVEN_UP;
            }
            int of = (int) got;
            if (!current.tell(A_PAIR, 2)) {
                return GIVEN_UP;
            }
            end = tellInFull(nodes.firstOf(of), of);
            return end == DONE ? tellInFull(nodes.secondOf(of), of) : end;
        }

        private int valueOf(int n, int below) {
            if (n < 0 || n >= below) {
                return FAILED;
            }
            Way home = homeOf(n);
            if (home.hasValue(n)) {
                return take(home.kindOf(n), home.numberOf(n), home.lengthOf(n));
            }
            if (home != current) {
                neededNode = n;
                neededIn = home;
                return NEEDED;
            }
            return workOut(n);
        }

        /** The first way, from the innermost on, to which a node is INSIDE. */
        private Way homeOf(int n) {
            for (Way way = current; way != null; way = way.around()) {
                if (way.isInside(n)) {
                    return way;
                }
            }
            return outermost;
        }

        private int take(int kind, long value, int length) {
            gotKind = kind;
            got = value;
            gotLength = length;
            return DONE;
        }

        private int takeNumber(long value) {
            return take(A_NUMBER, value, 1);
        }

        private int workOut(int n) {
            if (labour >= MOST_LABOUR) {
                return GIVEN_UP;
            }
            labour++;
            int end = FAILED;
            switch (nodes.sortOf(n)) {
                case NUMBER: end = takeNumber(nodes.numberOf(n)); break;
                case CHOICE: end = workChoice(n); break;
                case PAIR: end = take(A_PAIR, n, 1); break;
                case FIRST: end = workPart(n, false); break;
                case SECOND: end = workPart(n, true); break;
                case OP: end = workOp(n); break;
                case WHEN: end = workWhen(n); break;
                case SET: end = workSet(n); break;
                case FOLD: end = workFold(n); break;
                default: break;
            }
            if (end == DONE) {
                current.keep(n, gotKind, got, gotLength);
            }
            return end;
        }

        private int workChoice(int n) {
            int alternative = current.decide();
            if (alternative == NONE) {
                return STOPPED;
            }
            return valueOf(alternative == 0 ? nodes.firstOf(n) : nodes.secondOf(n), n);
        }

        private int workPart(int n, boolean second) {
            int end = valueOf(nodes.firstOf(n), n);
            if (end != DONE) {
                return end;
            }
            if (gotKind != A_PAIR) {
                return FAILED;
            }
            int of = (int) got;
            return valueOf(second ? nodes.secondOf(of) : nodes.firstOf(of), n);
        }

        private int workOp(int n) {
            int end = valueOf(nodes.firstOf(n), n);
            if (end != DONE) {
                return end;
            }
            if (gotKind != A_NUMBER) {
                return FAILED;
            }
            long left = got;
            end = valueOf(nodes.secondOf(n), n);
            if (end != DONE) {
                return end;
            }
            return gotKind == A_NUMBER ? reckon(nodes.thirdOf(n), left, got) : FAILED;
        }

        private int reckon(int kind, long left, long right) {
            switch (kind) {
                case SUM: return takeNumber(left + right);
                case DIFFERENCE: return takeNumber(left - right);
                case PRODUCT: return takeNumber(left * right);
                case QUOTIENT: return right == 0 ? FAILED : takeNumber(left / right);
                case LESS: return takeNumber(left < right ? 1 : 0);
                case SAME: return takeNumber(left == right ? 1 : 0);
                default: return FAILED;
            }
        }

        private int workWhen(int n) {
            int end = valueOf(nodes.firstOf(n), n);
            if (end != DONE) {
                return end;
            }
            if (gotKind != A_NUMBER) {
                return FAILED;
            }
            return valueOf(got != 0 ? nodes.secondOf(n) : nodes.thirdOf(n), n);
        }

        private int workFold(int n) {
            int end = valueOf(nodes.firstOf(n), n);
            if (end != DONE) {
                return end;
            }
            if (gotKind != A_LIST) {
                return FAILED;
            }
            int start = (int) got;
            int kind = nodes.secondOf(n);
            if (kind == HOW_MANY) {
                return takeNumber(lists.numberAt(start));
            }
            return foldNumbers(kind, start + 1, start + gotLength);
        }

        /** A value that is no number shows by its first token, which is none either. */
        private int foldNumbers(int kind, int from, int to) {
            long sum = 0;
            long least = Long.MAX_VALUE;
            for (int k = from; k < to; k++) {
                if (lists.kindAt(k) != A_NUMBER) {
                    return FAILED;
                }
                sum += lists.numberAt(k);
                least = Math.min(least, lists.numberAt(k));
            }
            if (kind == SUM_OF_ALL) {
                return takeNumber(sum);
            }
            return from < to ? takeNumber(least) : FAILED;
        }

        private int workSet(int n) {
            Way outer = current;
            Way own = outer.inner();
            if (own == null) {
                return GIVEN_UP;
            }
            // Each time that it begins anew, one more node has a value in the way around.
            for (int begun = 0; begun <= MOST_NODES; begun++) {
                int mark = lists.size();
                current = own;
                int end = goWaysOfSet(n, own, mark);
                current = outer;
                lists.cutTo(mark);
                if (end == DONE) {
                    return takeList(own.tokens());
                }
                if (end != NEEDED || neededIn != outer) {
                    return end;
                }
                end = valueOf(neededNode, n);
                if (end != DONE) {
                    return end;
                }
            }
            return GIVEN_UP;
        }

        private int goWaysOfSet(int n, Way own, int mark) {
            own.beginOfSet(nodes.secondOf(n));
            // More ways than one have a DECISION each, and so cost LABOUR.
            for (int gone = 0; gone <= MOST_LABOUR; gone++) {
                int end = tellInFull(nodes.firstOf(n), n);
                if (end == DONE) {
                    if (own.tokens().size() > MOST_TOKENS) {
                        return GIVEN_UP;
                    }
                    own.listValue();
                } else if (end == FAILED) {
                    own.dropValue();
                } else {
                    return end;
                }
                lists.cutTo(mark);
                if (!own.turn()) {
                    return DONE;
                }
            }
            return GIVEN_UP;
        }

        private int takeList(Tokens list) {
            int start = lists.size();
            int length = list.size();
            return lists.addFrom(list, 0, length) ? take(A_LIST, start, length) : GIVEN_UP;
        }
    }

    /** Beginnings of ways that are still to be gone, the last one put first. */
    private static final class Beginnings {
        // Each PLACE leaves at most one beginning more than there were.
        private final long[] alternatives = new long[MOST_PLACES + 2];
        private final int[] lengths = new int[MOST_PLACES + 2];
        private int size;

        boolean isEmpty() {
            return size == 0;
        }

        void forget() {
            size = 0;
        }

        void put(long leading, int length) {
            if (size < lengths.length) {
                alternatives[size] = leading;
                lengths[size] = length;
                size++;
            }
        }

        long lastAlternatives() {
            return size > 0 && size <= alternatives.length ? alternatives[size - 1] : 0;
        }

        int lastLength() {
            return size > 0 && size <= lengths.length ? lengths[size - 1] : 0;
        }

        void dropLast() {
            if (size > 0) {
                size--;
            }
        }

        /** Takes all of the other's, so that the one that was put there first is the last here. */
        void takeAllOf(Beginnings other) {
            for (int left = other.size; left > 0; left--) {
                put(other.lastAlternatives(), other.lastLength());
                other.dropLast();
            }
        }
    }

    /** The latest VALUE of a SEARCH, and its way. */
    private static final class Latest {
        private final Tokens tokens = new Tokens(MOST_TOKENS);
        private long alternatives;
        private int decisions;
        private int labour;

        Tokens tokens() {
            return tokens;
        }

        int decisions() {
            return decisions;
        }

        int labour() {
            return labour;
        }

        int alternativeAt(int k) {
            return k >= 0 && k < decisions ? (int) (alternatives >>> k & 1L) : NONE;
        }

        void forget() {
            tokens.cutTo(0);
            alternatives = 0;
            decisions = 0;
            labour = 0;
        }

        void keep(long leading, Work work) {
            Tokens told = work.tokens();
            tokens.cutTo(0);
            tokens.addFrom(told, 0, told.size());
            alternatives = leading;
            decisions = work.decisions();
            labour = work.labour();
        }
    }

    /** Comes to the PLACES of the ways for a node, in the order of its MODE. */
    private static final class Search {
        private final Work work;
        private final Latest latest = new Latest();
        private final Beginnings pending = new Beginnings();
        /** Those of the next window, the first one put first. */
        private final Beginnings later = new Beginnings();

        private boolean there;
        private boolean spent;
        private int goal;
        private int mode;
        private int bound = 1;
        /** The least DEPTH behind the window that is gone through now. */
        private int windowEnd;

        private int places;
        private int values;
        private int failed;
        private int givenUp;
        private int cut;

        Search(Nodes nodes) {
            work = new Work(nodes);
        }

        boolean isThere() {
            return there;
        }

        Latest latest() {
            return latest;
        }

        int places() {
            return places;
        }

        int values() {
            return values;
        }

        int failed() {
            return failed;
        }

        int givenUp() {
            return givenUp;
        }

        int cut() {
            return cut;
        }

        void forget() {
            there = false;
            spent = false;
            places = 0;
            values = 0;
            failed = 0;
            givenUp = 0;
            cut = 0;
            pending.forget();
            later.forget();
            latest.forget();
        }

        void begin(int n, int askedMode, int askedBound) {
            forget();
            there = true;
            goal = n;
            mode = askedMode;
            bound = askedBound;
            windowEnd = askedBound;
            pending.put(0, 0);
        }

        int goOn() {
            // Each way that is gone comes to one PLACE at least, or finds the SEARCH to be SPENT.
            for (int gone = 0; gone <= MOST_PLACES && !spent; gone++) {
                if (pending.isEmpty()) {
                    openNextWindow();
                }
                if (pending.isEmpty()) {
                    return NO_MORE;
                }
                if (places >= MOST_PLACES) {
                    spent = true;
                } else if (comesToValue()) {
                    return A_VALUE;
                }
            }
            return IS_SPENT;
        }

        private void openNextWindow() {
            if (!later.isEmpty()) {
                windowEnd += bound;
                pending.takeAllOf(later);
            }
        }

        /** Goes on with the beginning that is due, as far as the order lets it. */
        private boolean comesToValue() {
            long leading = pending.lastAlternatives();
            int length = pending.lastLength();
            pending.dropLast();
            int left = MOST_PLACES - places;
            int end = work.goWay(goal, leading, Math.min(mostDecisions(), length + left));
            int taken = work.decisions() - length;
            places += taken;
            if (taken >= left) {
                spent = true;
                return false;
            }
            putOtherAlternatives(leading, length);
            places++;
            return endsAsValue(end, leading);
        }

        /** How many DECISIONS a way may take before it has to wait, or is CUT. */
        private int mostDecisions() {
            switch (mode) {
                case WINDOWS: return windowEnd - 1;
                case BOUNDED: return bound;
                default: return MOST_NODES;
            }
        }

        private void putOtherAlternatives(long leading, int length) {
            for (int k = length; k < work.decisions(); k++) {
                pending.put(leading | 1L << k, k + 1);
            }
        }

        private boolean endsAsValue(int end, long leading) {
            switch (end) {
                case DONE:
                    values++;
                    latest.keep(leading, work);
                    return true;
                case FAILED:
                    failed++;
                    return false;
                case STOPPED:
                    stopAtDecision(leading, work.decisions());
                    return false;
                default:
                    givenUp++;
                    return false;
            }
        }

        private void stopAtDecision(long leading, int depth) {
            if (mode == BOUNDED) {
                cut++;
            } else {
                later.put(leading, depth + 1);
                later.put(leading | 1L << depth, depth + 1);
            }
        }
    }
}
