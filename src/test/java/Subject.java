import java.util.ArrayList;
import java.util.List;
import java.util.function.ToIntFunction;

/**
 * An object under test that may be asked without end: what an object answers after its 512th call
 * is free, so before that another one takes its place, which has had the same calls but for the
 * questions.
 */
final class Subject {
    private static final int MOST_CALLS = 512;

    private final List<ToIntFunction<TypeForecast>> changes = new ArrayList<>();
    private TypeForecast x = new TypeForecast();
    private int calls;

    private int ask(ToIntFunction<TypeForecast> call) {
        if (calls == MOST_CALLS) {
            x = new TypeForecast();
            for (ToIntFunction<TypeForecast> change : changes) {
                change.applyAsInt(x);
            }
            calls = changes.size();
        }
        calls++;
        return call.applyAsInt(x);
    }

    private int change(ToIntFunction<TypeForecast> call) {
        int answer = ask(call);
        changes.add(call);
        return answer;
    }

    private static int of(boolean answer) {
        return answer ? 1 : 0;
    }

    int leaf(int kind, int n) {
        return change(y -> y.leaf(kind, n));
    }

    int apply(int operation, int a, int b) {
        return change(y -> y.apply(operation, a, b));
    }

    int assign(int v, int e) {
        return change(y -> y.assign(v, e));
    }

    int raise(int kind) {
        return change(y -> y.raise(kind));
    }

    int leave(boolean again) {
        return change(y -> y.leave(again));
    }

    int branch(int e) {
        return change(y -> y.branch(e));
    }

    int loop(int e) {
        return change(y -> y.loop(e));
    }

    int attempt(int kind) {
        return change(y -> y.attempt(kind));
    }

    boolean otherwise() {
        return change(y -> of(y.otherwise())) == 1;
    }

    boolean end() {
        return change(y -> of(y.end())) == 1;
    }

    boolean feed(int n) {
        return change(y -> of(y.feed(n))) == 1;
    }

    int look() {
        return change(y -> y.look());
    }

    int run(int limit) {
        return change(y -> y.run(limit));
    }

    boolean alarm(int kind, int statement) {
        return ask(y -> of(y.alarm(kind, statement))) == 1;
    }

    int seen(int statement, int v) {
        return ask(y -> y.seen(statement, v));
    }

    int bound(int statement, int v, int which) {
        return ask(y -> y.bound(statement, v, which));
    }

    int place() {
        return ask(y -> y.place());
    }

    int type(int v) {
        return ask(y -> y.type(v));
    }

    int number(int v) {
        return ask(y -> y.number(v));
    }
}
