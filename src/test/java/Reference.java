import java.util.ArrayList;
import java.util.HashMap;
import java.util.HashSet;
import java.util.List;
import java.util.Map;
import java.util.Set;

/**
 * The document once more, as literally as it goes and in another way than the program: blocks are
 * lists of statements that are gone through by recursion, and a picture is worked with by trying
 * its values one after the other. Slow, and good only to be compared with.
 */
final class Reference {
    /** One value; type 1 number, 2 text, 4 none. */
    record Value(int type, long amount) {
        boolean isTrue() {
            return type != 4 && amount != 0;
        }
    }

    record Picture(int types, int numberLow, int numberHigh, int lengthLow, int lengthHigh) {
    }

    record Worked(Picture picture, Set<Integer> errors) {
    }

    record Expression(int operation, int kind, int n, Expression left, Expression right, int weight) {
    }

    private static final class Statement {
        int number;
        String kind;
        int detail;
        Expression expression;
        final List<List<Statement>> blocks = List.of(new ArrayList<>(), new ArrayList<>());
    }

    private static final class Open {
        Statement statement;
        int block;
    }

    private static final class Raised extends RuntimeException {
        private static final long serialVersionUID = 1;
        final int kind;
        int statement = -1;

        Raised(int kind) {
            super(null, null, false, false);
            this.kind = kind;
        }
    }

    private static final class Out extends RuntimeException {
        private static final long serialVersionUID = 1;
        int statement;

        Out(int statement) {
            super(null, null, false, false);
            this.statement = statement;
        }
    }

    private enum Way { END, BREAK, CONTINUE }

    private static final Picture NOTHING = new Picture(0, 0, 0, 0, 0);
    private static final long[] FAR = {17, 18, 33, 1000, 100000, 10000000};
    private static final Map<String, Worked> KNOWN = new HashMap<>();
    private static final int BIG = 1000000000;

    private final List<Expression> expressions = new ArrayList<>();
    private final List<Statement> program = new ArrayList<>();
    private final List<Open> open = new ArrayList<>();
    private int statements;
    private final List<Integer> inputs = new ArrayList<>();

    // ---- putting together

    int leaf(int kind, int n) {
        boolean fits = kind == 0 && Math.abs((long) n) <= BIG || kind == 1 && n >= 0 && n <= BIG
                || kind == 2 || kind == 3 && n >= 0 && n <= 4 || kind == 4;
        if (!fits || expressions.size() == 60) {
            return -1;
        }
        expressions.add(new Expression(-1, kind, n, null, null, 1));
        return expressions.size() - 1;
    }

    private Expression expression(int e) {
        return e < 0 || e >= expressions.size() ? null : expressions.get(e);
    }

    int apply(int operation, int a, int b) {
        Expression left = expression(a);
        Expression right = operation >= 6 ? null : expression(b);
        if (operation < 0 || operation > 7 || left == null || operation < 6 && right == null) {
            return -1;
        }
        int weight = 1 + left.weight() + (right == null ? 0 : right.weight());
        if (weight > 15 || expressions.size() == 60) {
            return -1;
        }
        expressions.add(new Expression(operation, -1, 0, left, right, weight));
        return expressions.size() - 1;
    }

    private int add(boolean allowed, String kind, int detail, Expression expression, boolean opens) {
        if (!allowed || statements == 24 || opens && open.size() == 5) {
            return -1;
        }
        Statement s = new Statement();
        s.number = statements++;
        s.kind = kind;
        s.detail = detail;
        s.expression = expression;
        Open inner = open.isEmpty() ? null : open.get(open.size() - 1);
        (inner == null ? program : inner.statement.blocks.get(inner.block)).add(s);
        if (opens) {
            Open o = new Open();
            o.statement = s;
            open.add(o);
        }
        return s.number;
    }

    int assign(int v, int e) {
        return add(v >= 0 && v < 5 && expression(e) != null, "assign", v, expression(e), false);
    }

    int raise(int kind) {
        return add(kind >= 1 && kind <= 4, "raise", kind, null, false);
    }

    int leave(boolean again) {
        boolean inLoop = open.stream().anyMatch(o -> o.statement.kind.equals("loop"));
        return add(inLoop, again ? "continue" : "break", 0, null, false);
    }

    int branch(int e) {
        return add(expression(e) != null, "branch", 0, expression(e), true);
    }

    int loop(int e) {
        return add(expression(e) != null, "loop", 0, expression(e), true);
    }

    int attempt(int kind) {
        return add(kind >= 0 && kind <= 4, "try", kind, null, true);
    }

    boolean otherwise() {
        Open inner = open.isEmpty() ? null : open.get(open.size() - 1);
        if (inner == null || inner.block == 1 || inner.statement.kind.equals("loop")) {
            return false;
        }
        inner.block = 1;
        return true;
    }

    boolean end() {
        return !open.isEmpty() && open.remove(open.size() - 1) != null;
    }

    boolean feed(int n) {
        return inputs.size() < 8 && Math.abs((long) n) <= BIG && inputs.add(n);
    }

    // ---- values

    /** The result of an operation without any limit; null and a kind in error[0] if it raises. */
    private static Value operate(int operation, Value x, Value y, int[] error) {
        boolean numbers = x.type() == 1 && (y == null || y.type() == 1);
        boolean texts = x.type() == 2 && (y == null || y.type() == 2);
        error[0] = 0;
        switch (operation) {
            case 0:
                if (numbers || texts) {
                    return new Value(x.type(), x.amount() + y.amount());
                }
                break;
            case 1:
                if (numbers) {
                    return new Value(1, x.amount() - y.amount());
                }
                break;
            case 2:
                if (numbers) {
                    return new Value(1, x.amount() * y.amount());
                }
                break;
            case 3:
                if (numbers && y.amount() != 0) {
                    long quotient = x.amount() / y.amount();
                    boolean exact = quotient * y.amount() == x.amount();
                    boolean negative = x.amount() < 0 != y.amount() < 0;
                    return new Value(1, !exact && negative ? quotient - 1 : quotient);
                }
                error[0] = numbers ? 3 : 1;
                return null;
            case 4:
                if (numbers || texts) {
                    return new Value(1, x.amount() < y.amount() ? 1 : 0);
                }
                break;
            case 5:
                return new Value(1, x.equals(y) ? 1 : 0);
            case 6:
                return new Value(1, x.isTrue() ? 0 : 1);
            default:
                if (texts) {
                    return new Value(1, x.amount());
                }
        }
        error[0] = 1;
        return null;
    }

    // ---- pictures

    private static Picture fit(Iterable<Value> values) {
        int types = 0;
        long[] bounds = {Long.MAX_VALUE, Long.MIN_VALUE, Long.MAX_VALUE, Long.MIN_VALUE};
        for (Value value : values) {
            types |= value.type();
            if (value.type() != 4) {
                int at = value.type() == 1 ? 0 : 2;
                bounds[at] = Math.min(bounds[at], value.amount());
                bounds[at + 1] = Math.max(bounds[at + 1], value.amount());
            }
        }
        boolean n = (types & 1) != 0;
        boolean t = (types & 2) != 0;
        return new Picture(types, n ? fitLow(bounds[0]) : 0, n ? fitHigh(bounds[1]) : 0,
                t ? fitLow(bounds[2]) : 0, t ? fitHigh(bounds[3]) : 0);
    }

    private static int fitLow(long least) {
        return least < -16 ? -17 : least > 16 ? 16 : (int) least;
    }

    private static int fitHigh(long greatest) {
        return greatest > 16 ? 17 : greatest < -16 ? -16 : (int) greatest;
    }

    private static void list(List<Value> values, int type, int low, int high) {
        for (int n = Math.max(low, -16); n <= Math.min(high, 16); n++) {
            values.add(new Value(type, n));
        }
        for (long far : FAR) {
            if (high == 17) {
                values.add(new Value(type, far));
            }
            if (low == -17) {
                values.add(new Value(type, -far));
            }
        }
    }

    /** All values of a picture up to the edge, and some beyond it where it is open. */
    private static List<Value> values(Picture picture) {
        List<Value> values = new ArrayList<>();
        if ((picture.types() & 1) != 0) {
            list(values, 1, picture.numberLow(), picture.numberHigh());
        }
        if ((picture.types() & 2) != 0) {
            list(values, 2, picture.lengthLow(), picture.lengthHigh());
        }
        if ((picture.types() & 4) != 0) {
            values.add(new Value(4, 0));
        }
        return values;
    }

    /** The picture of a variable that may be something of both; being unbound is 8. */
    static Picture join(Picture a, Picture b) {
        boolean an = (a.types() & 1) != 0;
        boolean bn = (b.types() & 1) != 0;
        boolean at = (a.types() & 2) != 0;
        boolean bt = (b.types() & 2) != 0;
        return new Picture(a.types() | b.types(),
                !an ? b.numberLow() : !bn ? a.numberLow() : Math.min(a.numberLow(), b.numberLow()),
                !an ? b.numberHigh() : !bn ? a.numberHigh() : Math.max(a.numberHigh(), b.numberHigh()),
                !at ? b.lengthLow() : !bt ? a.lengthLow() : Math.min(a.lengthLow(), b.lengthLow()),
                !at ? b.lengthHigh() : !bt ? a.lengthHigh() : Math.max(a.lengthHigh(), b.lengthHigh()));
    }

    private static Picture bound(Picture p) {
        return new Picture(p.types() & 7, p.numberLow(), p.numberHigh(), p.lengthLow(), p.lengthHigh());
    }

    private static Worked operateAll(int operation, Picture x, Picture y) {
        String key = operation + " " + x + " " + y;
        Worked known = KNOWN.get(key);
        if (known != null) {
            return known;
        }
        Set<Value> results = new HashSet<>();
        Set<Integer> errors = new HashSet<>();
        int[] error = new int[1];
        List<Value> seconds = y == null ? new ArrayList<>() : values(y);
        if (y == null) {
            seconds.add(null);
        }
        for (Value a : values(x)) {
            for (Value b : seconds) {
                Value result = operate(operation, a, b, error);
                if (result == null) {
                    errors.add(error[0]);
                } else {
                    results.add(result);
                }
            }
        }
        Worked worked = new Worked(fit(results), errors);
        KNOWN.put(key, worked);
        return worked;
    }

    private static Worked workOut(Expression e, Picture[] state) {
        switch (e.kind()) {
            case 0:
                return new Worked(fit(List.of(new Value(1, e.n()))), Set.of());
            case 1:
                return new Worked(fit(List.of(new Value(2, e.n()))), Set.of());
            case 2:
                return new Worked(fit(List.of(new Value(4, 0))), Set.of());
            case 3:
                Picture p = state[e.n()];
                return new Worked(bound(p), (p.types() & 8) != 0 ? Set.of(2) : Set.of());
            case 4:
                return new Worked(new Picture(1, -17, 17, 0, 0), Set.of());
            default:
        }
        Worked left = workOut(e.left(), state);
        Set<Integer> errors = new HashSet<>(left.errors());
        if (left.picture().types() == 0) {
            return new Worked(NOTHING, errors);
        }
        Picture second = null;
        if (e.right() != null) {
            Worked right = workOut(e.right(), state);
            errors.addAll(right.errors());
            if (right.picture().types() == 0) {
                return new Worked(NOTHING, errors);
            }
            second = right.picture();
        }
        Worked whole = operateAll(e.operation(), left.picture(), second);
        errors.addAll(whole.errors());
        return new Worked(whole.picture(), errors);
    }

    private static Picture[] narrow(Picture[] state, Expression e, boolean wanted) {
        boolean compares = e.operation() == 4 || e.operation() == 5;
        Expression subject = compares ? e.left() : e;
        if (subject.kind() != 3) {
            return state;
        }
        List<Value> kept = new ArrayList<>();
        int[] error = new int[1];
        List<Value> seconds = compares ? values(workOut(e.right(), state).picture()) : null;
        for (Value a : values(bound(state[subject.n()]))) {
            boolean keep = !compares && a.isTrue() == wanted;
            for (int i = 0; compares && i < seconds.size(); i++) {
                Value result = operate(e.operation(), a, seconds.get(i), error);
                keep |= result != null && result.isTrue() == wanted;
            }
            if (keep) {
                kept.add(a);
            }
        }
        Picture[] narrowed = state.clone();
        narrowed[subject.n()] = fit(kept);
        return narrowed;
    }

    // ---- looking through

    private Picture[][] before;
    private Picture[][] caught;
    private Picture[][] broken;
    private Picture[] behind;
    private boolean[][] alarms;
    private boolean grown;

    private Picture[] joined(Picture[] a, Picture[] b) {
        if (a == null || b == null) {
            return a == null ? b : a;
        }
        Picture[] both = new Picture[5];
        for (int v = 0; v < 5; v++) {
            both[v] = join(a[v], b[v]);
        }
        return both;
    }

    private void into(Picture[][] row, int at, Picture[] state) {
        Picture[] both = joined(row[at], state);
        grown |= both != null && (row[at] == null || !List.of(both).equals(List.of(row[at])));
        row[at] = both;
    }

    int look() {
        if (!open.isEmpty()) {
            return -1;
        }
        before = new Picture[24][];
        caught = new Picture[24][];
        broken = new Picture[24][];
        alarms = new boolean[24][5];
        Picture[] start = new Picture[5];
        for (int v = 0; v < 5; v++) {
            start[v] = new Picture(8, 0, 0, 0, 0);
        }
        do {
            grown = false;
            behind = through(program, start, List.of(), null);
        } while (grown);
        int count = 0;
        for (boolean[] row : alarms) {
            for (boolean alarm : row) {
                count += alarm ? 1 : 0;
            }
        }
        return count;
    }

    private Picture[] through(List<Statement> block, Picture[] state, List<Statement> tries,
            Statement loop) {
        Picture[] at = state;
        for (Statement s : block) {
            if (at == null) {
                return null;
            }
            at = through(s, at, tries, loop);
        }
        return at;
    }

    private void errorsOf(Statement s, Set<Integer> errors, List<Statement> tries) {
        for (int kind : errors) {
            boolean found = false;
            for (int i = tries.size() - 1; i >= 0 && !found; i--) {
                int catches = tries.get(i).detail;
                if (catches == 0 || catches == kind) {
                    into(caught, tries.get(i).number, before[s.number]);
                    found = true;
                }
            }
            if (!found) {
                alarms[s.number][kind] = true;
            }
        }
    }

    private static boolean may(Picture picture, boolean truth) {
        return values(picture).stream().anyMatch(value -> value.isTrue() == truth);
    }

    private Picture[] through(Statement s, Picture[] state, List<Statement> tries, Statement loop) {
        into(before, s.number, state);
        Picture[] here = before[s.number];
        switch (s.kind) {
            case "raise":
                errorsOf(s, Set.of(s.detail), tries);
                return null;
            case "break":
                into(broken, loop.number, here);
                return null;
            case "continue":
                into(before, loop.number, here);
                return null;
            case "try":
                List<Statement> inner = new ArrayList<>(tries);
                inner.add(s);
                Picture[] first = through(s.blocks.get(0), here, inner, loop);
                Picture[] second = caught[s.number] == null ? null
                        : through(s.blocks.get(1), caught[s.number], tries, loop);
                return joined(first, second);
            default:
        }
        Worked worked = workOut(s.expression, here);
        errorsOf(s, worked.errors(), tries);
        if (s.kind.equals("assign")) {
            if (worked.picture().types() == 0) {
                return null;
            }
            Picture[] after = here.clone();
            after[s.detail] = worked.picture();
            return after;
        }
        Picture[] yes = may(worked.picture(), true) ? narrow(here, s.expression, true) : null;
        Picture[] no = may(worked.picture(), false) ? narrow(here, s.expression, false) : null;
        if (s.kind.equals("branch")) {
            return joined(yes == null ? null : through(s.blocks.get(0), yes, tries, loop),
                    no == null ? null : through(s.blocks.get(1), no, tries, loop));
        }
        Picture[] round = yes == null ? null : through(s.blocks.get(0), yes, tries, s);
        if (round != null) {
            into(before, s.number, round);
        }
        return joined(no, broken[s.number]);
    }

    boolean alarm(int kind, int statement) {
        boolean looked = before != null && statement >= 0 && statement < statements;
        return looked && kind >= 1 && kind <= 4 && alarms[statement][kind];
    }

    private Picture pictureAt(int statement, int v) {
        Picture[] state = before == null ? null : statement == -1 ? behind : before[statement];
        return state == null ? NOTHING : state[v];
    }

    int seen(int statement, int v) {
        boolean there = v >= 0 && v < 5 && statement >= -1 && statement < statements;
        return there ? pictureAt(statement, v).types() : -1;
    }

    int bound(int statement, int v, int which) {
        if (seen(statement, v) == -1 || which < 0 || which > 3) {
            return 99;
        }
        Picture p = pictureAt(statement, v);
        int[] bounds = {p.numberLow(), p.numberHigh(), p.lengthLow(), p.lengthHigh()};
        return (p.types() & (which < 2 ? 1 : 2)) == 0 ? 99 : bounds[which];
    }

    // ---- running

    private int stepsLeft;
    private int inputsUsed;
    private final Value[] variables = new Value[5];
    private int place = -1;

    int run(int limit) {
        if (!open.isEmpty() || limit < 0 || limit > 1000) {
            return -1;
        }
        stepsLeft = limit;
        inputsUsed = 0;
        java.util.Arrays.fill(variables, null);
        try {
            execute(program);
            place = -1;
            return 0;
        } catch (Raised raised) {
            place = raised.statement;
            return 100 * raised.kind + raised.statement;
        } catch (Out out) {
            place = out.statement;
            return -2;
        }
    }

    private void step(Statement s) {
        if (stepsLeft == 0) {
            throw new Out(s.number);
        }
        stepsLeft--;
    }

    private Way execute(List<Statement> block) {
        for (Statement s : block) {
            step(s);
            Way way = execute(s);
            if (way != Way.END) {
                return way;
            }
        }
        return Way.END;
    }

    private Value valueIn(Statement s) {
        try {
            return valueOf(s.expression);
        } catch (Raised raised) {
            raised.statement = s.number;
            throw raised;
        } catch (Out out) {
            out.statement = s.number;
            throw out;
        }
    }

    private Value valueOf(Expression e) {
        switch (e.kind()) {
            case 0:
            case 1:
                return new Value(e.kind() + 1, e.n());
            case 2:
                return new Value(4, 0);
            case 3:
                if (variables[e.n()] == null) {
                    throw new Raised(2);
                }
                return variables[e.n()];
            case 4:
                return new Value(1, inputsUsed < inputs.size() ? inputs.get(inputsUsed++) : 0);
            default:
        }
        Value x = valueOf(e.left());
        Value y = e.right() == null ? null : valueOf(e.right());
        int[] error = new int[1];
        Value result = operate(e.operation(), x, y, error);
        if (result == null) {
            throw new Raised(error[0]);
        }
        if (Math.abs(result.amount()) > BIG) {
            throw new Out(-1);
        }
        return result;
    }

    private Way execute(Statement s) {
        switch (s.kind) {
            case "assign":
                variables[s.detail] = valueIn(s);
                return Way.END;
            case "raise":
                Raised raised = new Raised(s.detail);
                raised.statement = s.number;
                throw raised;
            case "break":
                return Way.BREAK;
            case "continue":
                return Way.CONTINUE;
            case "branch":
                return execute(s.blocks.get(valueIn(s).isTrue() ? 0 : 1));
            case "try":
                try {
                    return execute(s.blocks.get(0));
                } catch (Raised error) {
                    if (s.detail != 0 && s.detail != error.kind) {
                        throw error;
                    }
                }
                return execute(s.blocks.get(1));
            default:
                while (valueIn(s).isTrue()) {
                    if (execute(s.blocks.get(0)) == Way.BREAK) {
                        return Way.END;
                    }
                    step(s);
                }
                return Way.END;
        }
    }

    int place() {
        return place;
    }

    int type(int v) {
        if (v < 0 || v > 4) {
            return -1;
        }
        return variables[v] == null ? 8 : variables[v].type();
    }

    int number(int v) {
        return type(v) == 1 || type(v) == 2 ? (int) variables[v].amount() : 0;
    }

    int statements() {
        return statements;
    }

    int expressions() {
        return expressions.size();
    }
}
