import java.util.Arrays;

/**
 * A workbench for programs of a small language whose variables may hold values of any type: a
 * program is put together, looked through without running it, and run.
 */
public final class TypeForecast {
    private static final int VARIABLES = 5;
    private static final int MOST_EXPRESSIONS = 60;
    private static final int MOST_WEIGHT = 15;
    private static final int MOST_STATEMENTS = 24;
    private static final int MOST_OPEN = 5;
    private static final int MOST_INPUTS = 8;
    private static final int MOST_STEPS = 1000;
    private static final int LARGEST = 1000000000;

    private static final int NUMBER = 1;
    private static final int TEXT = 2;
    private static final int NONE = 4;
    private static final int UNBOUND = 8;

    private static final int TYPE_ERROR = 1;
    private static final int NAME_ERROR = 2;
    private static final int ZERO_ERROR = 3;
    private static final int OWN_ERROR = 4;

    private static final int NUMBER_LEAF = 0;
    private static final int TEXT_LEAF = 1;
    private static final int NONE_LEAF = 2;
    private static final int VARIABLE_LEAF = 3;
    private static final int INPUT_LEAF = 4;

    private static final int NO_OPERATION = -1;
    private static final int ADD = 0;
    private static final int SUBTRACT = 1;
    private static final int MULTIPLY = 2;
    private static final int DIVIDE = 3;
    private static final int LESS = 4;
    private static final int EQUAL = 5;
    private static final int NOT = 6;
    private static final int LENGTH = 7;

    private static final int ASSIGN = 0;
    private static final int RAISE = 1;
    private static final int BREAK = 2;
    private static final int CONTINUE = 3;
    private static final int BRANCH = 4;
    private static final int LOOP = 5;
    private static final int TRY = 6;

    private static final int REFUSED = -1;
    private static final int NOWHERE = -1;
    /** The place behind the whole program; the other places are the statements. */
    private static final int FINISH = MOST_STATEMENTS;
    private static final int RAN_OUT = -2;
    private static final int NO_BOUND = 99;

    private final Expressions expressions;
    private final Program program;
    private final Forecast forecast;
    private final Machine machine;

    public TypeForecast() {
        expressions = new Expressions();
        program = new Program();
        forecast = new Forecast(program, expressions);
        machine = new Machine(program, expressions);
    }

    public int leaf(int kind, int n) {
        return expressions.addLeaf(kind, n);
    }

    public int apply(int operation, int a, int b) {
        return expressions.addOperation(operation, a, b);
    }

    public int assign(int v, int e) {
        if (!isVariable(v) || !expressions.has(e)) {
            return REFUSED;
        }
        return program.add(ASSIGN, v, e);
    }

    public int raise(int kind) {
        if (!isErrorKind(kind)) {
            return REFUSED;
        }
        return program.add(RAISE, kind, 0);
    }

    public int leave(boolean again) {
        int around = program.innermostOpenLoop();
        if (around == NOWHERE) {
            return REFUSED;
        }
        return program.add(again ? CONTINUE : BREAK, around, 0);
    }

    public int branch(int e) {
        if (!expressions.has(e)) {
            return REFUSED;
        }
        return program.addOpen(BRANCH, 0, e);
    }

    public int loop(int e) {
        if (!expressions.has(e)) {
            return REFUSED;
        }
        return program.addOpen(LOOP, 0, e);
    }

    public int attempt(int kind) {
        if (kind != 0 && !isErrorKind(kind)) {
            return REFUSED;
        }
        return program.addOpen(TRY, kind, 0);
    }

    public boolean otherwise() {
        return program.openSecondBlock();
    }

    public boolean end() {
        return program.close();
    }

    public boolean feed(int n) {
        return machine.addInput(n);
    }

    public int look() {
        return program.isOpen() ? REFUSED : forecast.lookThrough();
    }

    public boolean alarm(int kind, int statement) {
        return isErrorKind(kind) && program.has(statement) && forecast.hasAlarm(kind, statement);
    }

    public int seen(int statement, int v) {
        if (!isVariable(v) || statement != NOWHERE && !program.has(statement)) {
            return REFUSED;
        }
        return pictureBefore(statement, v).types();
    }

    public int bound(int statement, int v, int which) {
        int types = seen(statement, v);
        if (types == REFUSED || which < 0 || which > 3) {
            return NO_BOUND;
        }
        if ((types & (which < 2 ? NUMBER : TEXT)) == 0) {
            return NO_BOUND;
        }
        Picture picture = pictureBefore(statement, v);
        Range range = which < 2 ? picture.numbers : picture.lengths;
        return which % 2 == 0 ? range.shownLow() : range.shownHigh();
    }

    public int run(int limit) {
        if (program.isOpen() || limit < 0 || limit > MOST_STEPS) {
            return REFUSED;
        }
        return machine.execute(limit);
    }

    public int place() {
        return machine.lastPlace();
    }

    public int type(int v) {
        return isVariable(v) ? machine.typeOf(v) : REFUSED;
    }

    public int number(int v) {
        return isVariable(v) ? machine.amountOf(v) : 0;
    }

    private Picture pictureBefore(int statement, int v) {
        return forecast.stateAt(statement == NOWHERE ? FINISH : statement).variables[v];
    }

    private static boolean isVariable(int v) {
        return v >= 0 && v < VARIABLES;
    }

    private static boolean isErrorKind(int kind) {
        return kind >= TYPE_ERROR && kind <= OWN_ERROR;
    }

    /** The expressions; a part always has a smaller number than the operation that it stands in. */
    private static final class Expressions {
        private final int[] operation = new int[MOST_EXPRESSIONS];
        private final int[] leafKind = new int[MOST_EXPRESSIONS];
        private final int[] leafNumber = new int[MOST_EXPRESSIONS];
        private final int[] left = new int[MOST_EXPRESSIONS];
        private final int[] right = new int[MOST_EXPRESSIONS];
        private final int[] weight = new int[MOST_EXPRESSIONS];
        private int count;

        boolean has(int e) {
            return e >= 0 && e < count;
        }

        int addLeaf(int kind, int n) {
            if (count >= MOST_EXPRESSIONS || !isLeaf(kind, n)) {
                return REFUSED;
            }
            operation[count] = NO_OPERATION;
            leafKind[count] = kind;
            leafNumber[count] = n;
            weight[count] = 1;
            return count++;
        }

        private static boolean isLeaf(int kind, int n) {
            switch (kind) {
                case NUMBER_LEAF:
                    return n >= -LARGEST && n <= LARGEST;
                case TEXT_LEAF:
                    return n >= 0 && n <= LARGEST;
                case VARIABLE_LEAF:
                    return isVariable(n);
                case NONE_LEAF:
                case INPUT_LEAF:
                    return true;
                default:
                    return false;
            }
        }

        int addOperation(int wanted, int a, int b) {
            if (count >= MOST_EXPRESSIONS || wanted < ADD || wanted > LENGTH || !has(a)) {
                return REFUSED;
            }
            boolean single = hasOnePart(wanted);
            if (!single && !has(b)) {
                return REFUSED;
            }
            int heavy = 1 + weight[a] + (single ? 0 : weight[b]);
            if (heavy > MOST_WEIGHT) {
                return REFUSED;
            }
            operation[count] = wanted;
            left[count] = a;
            right[count] = single ? a : b;
            weight[count] = heavy;
            return count++;
        }

        static boolean hasOnePart(int operation) {
            return operation == NOT || operation == LENGTH;
        }

        /** The variable of which a condition tells something, or NOWHERE. */
        int narrowedVariable(int condition) {
            boolean compares = operation[condition] == LESS || operation[condition] == EQUAL;
            int subject = compares ? left[condition] : condition;
            boolean named = operation[subject] == NO_OPERATION
                    && leafKind[subject] == VARIABLE_LEAF;
            return named ? leafNumber[subject] : NOWHERE;
        }
    }

    /**
     * The statements, and where control goes from each of them. Both the looking through and the
     * run walk from place to place, so neither needs to go down into blocks.
     */
    private static final class Program {
        private final int[] kind = new int[MOST_STATEMENTS];
        /** The variable, the error kind, the caught kind, or the loop that is left. */
        private final int[] detail = new int[MOST_STATEMENTS];
        private final int[] expression = new int[MOST_STATEMENTS];
        private final int[] parent = new int[MOST_STATEMENTS];
        private final int[] part = new int[MOST_STATEMENTS];
        private final int[] next = new int[MOST_STATEMENTS];
        private final int[] first = new int[2 * MOST_STATEMENTS];
        private int count;

        private final int[] openStatement = new int[MOST_OPEN];
        private final int[] openPart = new int[MOST_OPEN];
        /** The latest statement of each open block; the program itself is the block 0. */
        private final int[] latest = new int[MOST_OPEN + 1];
        private int openCount;

        Program() {
            latest[0] = NOWHERE;
        }

        boolean has(int s) {
            return s >= 0 && s < count;
        }

        boolean isOpen() {
            return openCount > 0;
        }

        boolean worksOut(int s) {
            return kind[s] == ASSIGN || kind[s] == BRANCH || kind[s] == LOOP;
        }

        int add(int newKind, int newDetail, int newExpression) {
            if (count >= MOST_STATEMENTS) {
                return REFUSED;
            }
            int s = count++;
            kind[s] = newKind;
            detail[s] = newDetail;
            expression[s] = newExpression;
            next[s] = NOWHERE;
            first[2 * s] = NOWHERE;
            first[2 * s + 1] = NOWHERE;
            link(s);
            return s;
        }

        private void link(int s) {
            int around = openCount > 0 ? openStatement[openCount - 1] : NOWHERE;
            int block = openCount > 0 ? openPart[openCount - 1] : 0;
            parent[s] = around;
            part[s] = block;
            int before = latest[openCount];
            if (before != NOWHERE) {
                next[before] = s;
            } else if (around != NOWHERE) {
                first[2 * around + block] = s;
            }
            latest[openCount] = s;
        }

        int addOpen(int newKind, int newDetail, int newExpression) {
            if (openCount >= MOST_OPEN) {
                return REFUSED;
            }
            int s = add(newKind, newDetail, newExpression);
            if (s != REFUSED) {
                openStatement[openCount] = s;
                openPart[openCount] = 0;
                openCount++;
                latest[openCount] = NOWHERE;
            }
            return s;
        }

        boolean openSecondBlock() {
            if (openCount == 0 || openPart[openCount - 1] != 0) {
                return false;
            }
            if (kind[openStatement[openCount - 1]] == LOOP) {
                return false;
            }
            openPart[openCount - 1] = 1;
            latest[openCount] = NOWHERE;
            return true;
        }

        boolean close() {
            if (openCount == 0) {
                return false;
            }
            openCount--;
            return true;
        }

        int innermostOpenLoop() {
            for (int i = openCount - 1; i >= 0; i--) {
                if (kind[openStatement[i]] == LOOP) {
                    return openStatement[i];
                }
            }
            return NOWHERE;
        }

        int start() {
            return count > 0 ? 0 : FINISH;
        }

        /** Where a block of a statement begins; for a loop, 1 is what stands behind it. */
        int entry(int s, int block) {
            int begin = first[2 * s + block];
            if (begin != NOWHERE) {
                return begin;
            }
            return kind[s] == LOOP && block == 0 ? s : behind(s);
        }

        /** Where control goes when a statement has come to its end. */
        int behind(int s) {
            int at = s;
            for (int level = 0; level <= MOST_OPEN; level++) {
                if (next[at] != NOWHERE) {
                    return next[at];
                }
                at = parent[at];
                if (at == NOWHERE) {
                    return FINISH;
                }
                if (kind[at] == LOOP) {
                    return at;
                }
            }
            return FINISH;
        }

        /** Where control goes with an error that is raised in a statement; NOWHERE if uncaught. */
        int catcher(int s, int error) {
            int at = s;
            for (int level = 0; level < MOST_OPEN && parent[at] != NOWHERE; level++) {
                int around = parent[at];
                boolean guarded = kind[around] == TRY && part[at] == 0;
                if (guarded && (detail[around] == 0 || detail[around] == error)) {
                    return entry(around, 1);
                }
                at = around;
            }
            return NOWHERE;
        }
    }

    /**
     * The whole numbers from low to high; none when low is above high. A bound that is not there
     * is FAR away: so far that every operation with it gives a number beyond EDGE again, or the
     * number that it would give for all greater ones.
     */
    private static final class Range {
        private static final int EDGE = 16;
        private static final int FAR = 1000;

        private int low;
        private int high;

        Range() {
            clear();
        }

        /** An empty range lies beyond all others, so that it never meets one in a comparison. */
        void clear() {
            low = FAR + 1;
            high = -FAR - 1;
        }

        void copyFrom(Range other) {
            low = other.low;
            high = other.high;
        }

        /** Joins the range that fits the numbers from least to greatest, if there are any. */
        void include(int least, int greatest) {
            if (least > greatest) {
                return;
            }
            int fitLow = least < -EDGE ? -FAR : least > EDGE ? EDGE : least;
            int fitHigh = greatest > EDGE ? FAR : greatest < -EDGE ? -EDGE : greatest;
            low = fitLow < low ? fitLow : low;
            high = fitHigh > high ? fitHigh : high;
        }

        /** Answers whether anything was added. */
        boolean join(Range other) {
            boolean grown = other.low < low || other.high > high;
            low = other.low < low ? other.low : low;
            high = other.high > high ? other.high : high;
            return grown;
        }

        void includeAll() {
            include(-FAR, FAR);
        }

        boolean isEmpty() {
            return low > high;
        }

        boolean isSingle() {
            return low == high;
        }

        boolean holds(int n) {
            return low <= n && n <= high;
        }

        boolean holdsOtherThan(int n) {
            return low <= high && (low != n || high != n);
        }

        boolean meets(Range other) {
            return low <= other.high && other.low <= high;
        }

        boolean mayBeLess(Range other) {
            return low < other.high;
        }

        boolean mayBeNotLess(Range other) {
            return high >= other.low;
        }

        void keep(int from, int to) {
            int least = Math.max(low, from);
            int greatest = Math.min(high, to);
            clear();
            include(least, greatest);
        }

        void drop(int n) {
            int least = low == n ? n + 1 : low;
            int greatest = high == n ? n - 1 : high;
            clear();
            include(least, greatest);
        }

        void includeSums(Range x, Range y) {
            if (!x.isEmpty() && !y.isEmpty()) {
                include(x.low + y.low, x.high + y.high);
            }
        }

        void includeDifferences(Range x, Range y) {
            if (!x.isEmpty() && !y.isEmpty()) {
                include(x.low - y.high, x.high - y.low);
            }
        }

        void includeProducts(Range x, Range y) {
            if (!x.isEmpty() && !y.isEmpty()) {
                includeCorners(x.low * y.low, x.low * y.high, x.high * y.low, x.high * y.high);
            }
        }

        /** By divisors of one sign: only among these do the corners hold the extremes. */
        void includeQuotients(Range x, int least, int greatest) {
            if (x.isEmpty() || least > greatest || least == 0 || greatest == 0) {
                return;
            }
            includeCorners(Math.floorDiv(x.low, least), Math.floorDiv(x.low, greatest),
                    Math.floorDiv(x.high, least), Math.floorDiv(x.high, greatest));
        }

        private void includeCorners(int a, int b, int c, int d) {
            include(Math.min(Math.min(a, b), Math.min(c, d)),
                    Math.max(Math.max(a, b), Math.max(c, d)));
        }

        int shownLow() {
            return low < -EDGE ? -EDGE - 1 : low;
        }

        int shownHigh() {
            return high > EDGE ? EDGE + 1 : high;
        }
    }

    /** Which values may be; for a variable also whether it may be unbound. */
    private static final class Picture {
        private final Range numbers = new Range();
        private final Range lengths = new Range();
        private boolean none;
        private boolean unbound;

        void clear() {
            numbers.clear();
            lengths.clear();
            none = false;
            unbound = false;
        }

        void copyFrom(Picture other) {
            numbers.copyFrom(other.numbers);
            lengths.copyFrom(other.lengths);
            none = other.none;
            unbound = other.unbound;
        }

        /** Answers whether anything was added. */
        boolean join(Picture other) {
            boolean grown = numbers.join(other.numbers);
            grown = lengths.join(other.lengths) || grown;
            grown = other.none && !none || other.unbound && !unbound || grown;
            none = none || other.none;
            unbound = unbound || other.unbound;
            return grown;
        }

        int types() {
            return (numbers.isEmpty() ? 0 : NUMBER) + (lengths.isEmpty() ? 0 : TEXT)
                    + (none ? NONE : 0) + (unbound ? UNBOUND : 0);
        }

        boolean hasValue() {
            return !numbers.isEmpty() || !lengths.isEmpty() || none;
        }

        boolean hasOtherThanNumber() {
            return !lengths.isEmpty() || none;
        }

        boolean hasOtherThanText() {
            return !numbers.isEmpty() || none;
        }

        boolean hasTrue() {
            return numbers.holdsOtherThan(0) || lengths.holdsOtherThan(0);
        }

        boolean hasFalse() {
            return numbers.holds(0) || lengths.holds(0) || none;
        }

        boolean hasOneValue() {
            if (none) {
                return numbers.isEmpty() && lengths.isEmpty();
            }
            return numbers.isSingle() && lengths.isEmpty()
                    || numbers.isEmpty() && lengths.isSingle();
        }

        boolean mayEqual(Picture other) {
            return numbers.meets(other.numbers) || lengths.meets(other.lengths)
                    || none && other.none;
        }

        boolean mayDiffer(Picture other) {
            return !hasOneValue() || !other.hasOneValue() || !mayEqual(other);
        }

        void includeTruth(boolean mayBeTrue, boolean mayBeFalse) {
            numbers.include(mayBeFalse ? 0 : 1, mayBeTrue ? 1 : 0);
        }

        void keepTruth(boolean wanted) {
            if (wanted) {
                numbers.drop(0);
                lengths.drop(0);
                none = false;
            } else {
                numbers.keep(0, 0);
                lengths.keep(0, 0);
            }
        }

        /** Keeps the values that are less (or, not wanted, not less) than one of the other's. */
        void keepLess(Picture other, boolean wanted) {
            none = false;
            if (wanted) {
                numbers.keep(-Range.FAR, other.numbers.high - 1);
                lengths.keep(-Range.FAR, other.lengths.high - 1);
            } else {
                numbers.keep(other.numbers.low, Range.FAR);
                lengths.keep(other.lengths.low, Range.FAR);
            }
        }

        /** Keeps the values that equal (or, not wanted, differ from) one of the other's. */
        void keepEqual(Picture other, boolean wanted) {
            if (wanted) {
                numbers.keep(other.numbers.low, other.numbers.high);
                lengths.keep(other.lengths.low, other.lengths.high);
                none = none && other.none;
                return;
            }
            // Every value differs from one of two; only a lone one can take a value away. The
            // bound of an empty range is held by no range.
            if (other.hasOneValue()) {
                numbers.drop(other.numbers.low);
                lengths.drop(other.lengths.low);
                none = none && !other.none;
            }
        }
    }

    /** What the variables may be at a place; nothing at all where the place is not reached. */
    private static final class State {
        private final Picture[] variables = new Picture[VARIABLES];

        State() {
            for (int v = 0; v < VARIABLES; v++) {
                variables[v] = new Picture();
            }
        }

        void clear() {
            for (int v = 0; v < VARIABLES; v++) {
                variables[v].clear();
            }
        }

        void unbindAll() {
            for (int v = 0; v < VARIABLES; v++) {
                variables[v].clear();
                variables[v].unbound = true;
            }
        }

        void copyFrom(State other) {
            for (int v = 0; v < VARIABLES; v++) {
                variables[v].copyFrom(other.variables[v]);
            }
        }

        /** Answers whether anything was added. */
        boolean join(State other) {
            boolean grown = false;
            for (int v = 0; v < VARIABLES; v++) {
                grown = variables[v].join(other.variables[v]) || grown;
            }
            return grown;
        }
    }

    /** Works expressions out in pictures, and narrows states by conditions worked out so. */
    private static final class Painter {
        private final Expressions expressions;
        /** The latest picture of each expression; the parts' ones are used to narrow. */
        private final Picture[] pictures = new Picture[MOST_EXPRESSIONS];

        Painter(Expressions expressions) {
            this.expressions = expressions;
            for (int e = 0; e < MOST_EXPRESSIONS; e++) {
                pictures[e] = new Picture();
            }
        }

        /** Answers the kinds of errors that may be raised, each as a bit. */
        private int paint(int e, State state, int depth) {
            Picture picture = pictures[e];
            picture.clear();
            if (depth > MOST_WEIGHT) {
                return 0;
            }
            int operation = expressions.operation[e];
            if (operation == NO_OPERATION) {
                return paintLeaf(e, state, picture);
            }
            int a = expressions.left[e];
            int errors = paint(a, state, depth + 1);
            if (!pictures[a].hasValue()) {
                return errors;
            }
            if (Expressions.hasOnePart(operation)) {
                return errors | paintSingle(operation, pictures[a], picture);
            }
            int b = expressions.right[e];
            errors |= paint(b, state, depth + 1);
            if (!pictures[b].hasValue()) {
                return errors;
            }
            return errors | paintPair(operation, pictures[a], pictures[b], picture);
        }

        private int paintLeaf(int e, State state, Picture picture) {
            int n = expressions.leafNumber[e];
            switch (expressions.leafKind[e]) {
                case NUMBER_LEAF:
                    picture.numbers.include(n, n);
                    return 0;
                case TEXT_LEAF:
                    picture.lengths.include(n, n);
                    return 0;
                case NONE_LEAF:
                    picture.none = true;
                    return 0;
                case VARIABLE_LEAF:
                    picture.copyFrom(state.variables[n]);
                    picture.unbound = false;
                    return state.variables[n].unbound ? 1 << NAME_ERROR : 0;
                default:
                    picture.numbers.includeAll();
                    return 0;
            }
        }

        private static int paintSingle(int operation, Picture x, Picture result) {
            if (operation == NOT) {
                result.includeTruth(x.hasFalse(), x.hasTrue());
                return 0;
            }
            result.numbers.join(x.lengths);
            return x.hasOtherThanText() ? 1 << TYPE_ERROR : 0;
        }

        private static int paintPair(int operation, Picture x, Picture y, Picture result) {
            switch (operation) {
                case ADD:
                    result.numbers.includeSums(x.numbers, y.numbers);
                    result.lengths.includeSums(x.lengths, y.lengths);
                    return mixError(x, y);
                case SUBTRACT:
                    result.numbers.includeDifferences(x.numbers, y.numbers);
                    return nonNumberError(x, y);
                case MULTIPLY:
                    result.numbers.includeProducts(x.numbers, y.numbers);
                    return nonNumberError(x, y);
                case DIVIDE:
                    result.numbers.includeQuotients(
                            x.numbers, y.numbers.low, Math.min(y.numbers.high, -1));
                    result.numbers.includeQuotients(
                            x.numbers, Math.max(y.numbers.low, 1), y.numbers.high);
                    return nonNumberError(x, y) | zeroError(x, y);
                case LESS:
                    result.includeTruth(
                            x.numbers.mayBeLess(y.numbers) || x.lengths.mayBeLess(y.lengths),
                            x.numbers.mayBeNotLess(y.numbers) || x.lengths.mayBeNotLess(y.lengths));
                    return mixError(x, y);
                default:
                    result.includeTruth(x.mayEqual(y), x.mayDiffer(y));
                    return 0;
            }
        }

        /** For operations that take two numbers or two texts; both pictures have a value. */
        private static int mixError(Picture x, Picture y) {
            boolean alwaysNumbers = !x.hasOtherThanNumber() && !y.hasOtherThanNumber();
            boolean alwaysTexts = !x.hasOtherThanText() && !y.hasOtherThanText();
            return alwaysNumbers || alwaysTexts ? 0 : 1 << TYPE_ERROR;
        }

        private static int nonNumberError(Picture x, Picture y) {
            return x.hasOtherThanNumber() || y.hasOtherThanNumber() ? 1 << TYPE_ERROR : 0;
        }

        private static int zeroError(Picture x, Picture y) {
            return !x.numbers.isEmpty() && y.numbers.holds(0) ? 1 << ZERO_ERROR : 0;
        }

        /** Narrows a state by the condition that was painted last, in the same state. */
        void narrow(State state, int condition, boolean wanted) {
            int v = expressions.narrowedVariable(condition);
            if (v == NOWHERE) {
                return;
            }
            Picture picture = state.variables[v];
            picture.unbound = false;
            switch (expressions.operation[condition]) {
                case LESS:
                    picture.keepLess(pictures[expressions.right[condition]], wanted);
                    break;
                case EQUAL:
                    picture.keepEqual(pictures[expressions.right[condition]], wanted);
                    break;
                default:
                    picture.keepTruth(wanted);
            }
        }
    }

    /** Looks the program through: states flow from place to place until none of them grows. */
    private static final class Forecast {
        private static final int KINDS = OWN_ERROR + 1;
        /** Far above what the few thousand steps in which all states can grow ever need. */
        private static final int MOST_ROUNDS = 1000000;

        private final Program program;
        private final Painter painter;
        private final State[] before = new State[MOST_STATEMENTS + 1];
        private final State passing = new State();
        private final boolean[] waiting = new boolean[MOST_STATEMENTS + 1];
        private final boolean[] alarms = new boolean[MOST_STATEMENTS * KINDS];
        private int alarmCount;
        private int statementsLooked = NOWHERE;

        Forecast(Program program, Expressions expressions) {
            this.program = program;
            painter = new Painter(expressions);
            for (int at = 0; at <= FINISH; at++) {
                before[at] = new State();
            }
        }

        State stateAt(int at) {
            return before[at];
        }

        boolean hasAlarm(int error, int s) {
            return alarms[s * KINDS + error];
        }

        /** Answers the number of alarms. */
        int lookThrough() {
            // A program without open blocks changes only by new statements.
            if (statementsLooked == program.count) {
                return alarmCount;
            }
            statementsLooked = program.count;
            forget();
            passing.unbindAll();
            flow(passing, program.start());
            boolean busy = true;
            for (int round = 0; busy && round < MOST_ROUNDS; round++) {
                busy = false;
                for (int s = 0; s < program.count; s++) {
                    if (waiting[s]) {
                        waiting[s] = false;
                        busy = true;
                        if (program.worksOut(s)) {
                            visitWithExpression(s);
                        } else {
                            visitPlain(s);
                        }
                    }
                }
            }
            alarmCount = countAlarms();
            return alarmCount;
        }

        private void forget() {
            for (int at = 0; at <= FINISH; at++) {
                before[at].clear();
                waiting[at] = false;
            }
            for (int i = 0; i < alarms.length; i++) {
                alarms[i] = false;
            }
        }

        private int countAlarms() {
            int found = 0;
            for (int i = 0; i < alarms.length; i++) {
                found += alarms[i] ? 1 : 0;
            }
            return found;
        }

        private void flow(State state, int target) {
            if (before[target].join(state)) {
                waiting[target] = true;
            }
        }

        private void visitPlain(int s) {
            switch (program.kind[s]) {
                case RAISE:
                    flowErrors(s, 1 << program.detail[s]);
                    break;
                case BREAK:
                    flow(before[s], program.behind(program.detail[s]));
                    break;
                case CONTINUE:
                    flow(before[s], program.detail[s]);
                    break;
                default:
                    flow(before[s], program.entry(s, 0));
            }
        }

        private void visitWithExpression(int s) {
            int e = program.expression[s];
            flowErrors(s, painter.paint(e, before[s], 1));
            Picture picture = painter.pictures[e];
            if (program.kind[s] == ASSIGN) {
                flowAssigned(s, picture);
                return;
            }
            if (picture.hasTrue()) {
                flowNarrowed(s, true);
            }
            if (picture.hasFalse()) {
                flowNarrowed(s, false);
            }
        }

        private void flowAssigned(int s, Picture picture) {
            if (picture.hasValue()) {
                passing.copyFrom(before[s]);
                passing.variables[program.detail[s]].copyFrom(picture);
                flow(passing, program.behind(s));
            }
        }

        private void flowNarrowed(int s, boolean wanted) {
            passing.copyFrom(before[s]);
            painter.narrow(passing, program.expression[s], wanted);
            flow(passing, program.entry(s, wanted ? 0 : 1));
        }

        private void flowErrors(int s, int errors) {
            for (int error = TYPE_ERROR; error <= OWN_ERROR; error++) {
                if ((errors >> error & 1) != 0) {
                    int target = program.catcher(s, error);
                    if (target == NOWHERE) {
                        alarms[s * KINDS + error] = true;
                    } else {
                        flow(before[s], target);
                    }
                }
            }
        }
    }

    /**
     * Runs the program. A value is one long, its amount above its type, because a run works out
     * too many values to make an object for each.
     */
    private static final class Machine {
        private static final int TYPE_BITS = 4;
        /** Stands in place of a type: the amount is then the kind of the error, or OVER. */
        private static final int FAILURE = 0;
        private static final int OVER = 9;

        private final Program program;
        private final Expressions expressions;
        private final int[] inputs = new int[MOST_INPUTS];
        private int inputCount;
        private int inputsUsed;
        private final long[] variables = new long[VARIABLES];
        private int answer;
        private int place = NOWHERE;

        Machine(Program program, Expressions expressions) {
            this.program = program;
            this.expressions = expressions;
            Arrays.fill(variables, value(UNBOUND, 0));
        }

        boolean addInput(int n) {
            if (inputCount >= MOST_INPUTS || n < -LARGEST || n > LARGEST) {
                return false;
            }
            inputs[inputCount++] = n;
            return true;
        }

        int lastPlace() {
            return place;
        }

        int typeOf(int v) {
            return typeIn(variables[v]);
        }

        int amountOf(int v) {
            return (int) amountIn(variables[v]);
        }

        int execute(int limit) {
            Arrays.fill(variables, value(UNBOUND, 0));
            inputsUsed = 0;
            int at = program.start();
            for (int steps = 0; steps < limit && at != FINISH; steps++) {
                at = step(at);
                if (at == NOWHERE) {
                    return answer;
                }
            }
            return at == FINISH ? stop(NOWHERE, 0) : stop(at, RAN_OUT);
        }

        private int stop(int at, int outcome) {
            place = at;
            answer = outcome;
            return outcome;
        }

        /** Answers the next place, or NOWHERE when the run has stopped at this one. */
        private int step(int s) {
            if (program.worksOut(s)) {
                return stepWith(s, workOut(program.expression[s], 1));
            }
            switch (program.kind[s]) {
                case RAISE:
                    return fail(s, program.detail[s]);
                case BREAK:
                    return program.behind(program.detail[s]);
                case CONTINUE:
                    return program.detail[s];
                default:
                    return program.entry(s, 0);
            }
        }

        private int stepWith(int s, long value) {
            if (typeIn(value) == FAILURE) {
                return fail(s, (int) amountIn(value));
            }
            if (program.kind[s] == ASSIGN) {
                variables[program.detail[s]] = value;
                return program.behind(s);
            }
            return program.entry(s, isTrue(value) ? 0 : 1);
        }

        private int fail(int s, int failure) {
            if (failure == OVER) {
                stop(s, RAN_OUT);
                return NOWHERE;
            }
            int target = program.catcher(s, failure);
            if (target == NOWHERE) {
                stop(s, 100 * failure + s);
            }
            return target;
        }

        private long workOut(int e, int depth) {
            if (depth > MOST_WEIGHT) {
                return value(FAILURE, OVER);
            }
            int operation = expressions.operation[e];
            if (operation == NO_OPERATION) {
                return leafValue(e);
            }
            long x = workOut(expressions.left[e], depth + 1);
            if (typeIn(x) == FAILURE) {
                return x;
            }
            if (Expressions.hasOnePart(operation)) {
                return single(operation, x);
            }
            long y = workOut(expressions.right[e], depth + 1);
            if (typeIn(y) == FAILURE) {
                return y;
            }
            return pair(operation, x, y);
        }

        private long leafValue(int e) {
            int n = expressions.leafNumber[e];
            switch (expressions.leafKind[e]) {
                case NUMBER_LEAF:
                    return value(NUMBER, n);
                case TEXT_LEAF:
                    return value(TEXT, n);
                case NONE_LEAF:
                    return value(NONE, 0);
                case VARIABLE_LEAF:
                    boolean bound = typeIn(variables[n]) != UNBOUND;
                    return bound ? variables[n] : value(FAILURE, NAME_ERROR);
                default:
                    return value(NUMBER, nextInput());
            }
        }

        private int nextInput() {
            return inputsUsed < inputCount ? inputs[inputsUsed++] : 0;
        }

        private static long single(int operation, long x) {
            if (operation == NOT) {
                return truth(!isTrue(x));
            }
            return typeIn(x) == TEXT ? value(NUMBER, amountIn(x)) : value(FAILURE, TYPE_ERROR);
        }

        private static long pair(int operation, long x, long y) {
            if (operation == EQUAL) {
                return truth(x == y);
            }
            boolean numbers = typeIn(x) == NUMBER && typeIn(y) == NUMBER;
            boolean texts = typeIn(x) == TEXT && typeIn(y) == TEXT;
            boolean takesTexts = operation == ADD || operation == LESS;
            if (!numbers && !(texts && takesTexts)) {
                return value(FAILURE, TYPE_ERROR);
            }
            long a = amountIn(x);
            long b = amountIn(y);
            switch (operation) {
                case ADD:
                    return checked(typeIn(x), a + b);
                case SUBTRACT:
                    return checked(NUMBER, a - b);
                case MULTIPLY:
                    return checked(NUMBER, a * b);
                case DIVIDE:
                    return b == 0 ? value(FAILURE, ZERO_ERROR)
                            : checked(NUMBER, Math.floorDiv(a, b));
                default:
                    return truth(a < b);
            }
        }

        private static long checked(int type, long amount) {
            boolean fits = amount >= -LARGEST && amount <= LARGEST;
            return fits ? value(type, amount) : value(FAILURE, OVER);
        }

        private static long truth(boolean yes) {
            return value(NUMBER, yes ? 1 : 0);
        }

        private static boolean isTrue(long value) {
            return typeIn(value) != NONE && amountIn(value) != 0;
        }

        private static long value(int type, long amount) {
            return amount << TYPE_BITS | type;
        }

        private static int typeIn(long value) {
            return (int) value & (1 << TYPE_BITS) - 1;
        }

        private static long amountIn(long value) {
            return value >> TYPE_BITS;
        }
    }
}
