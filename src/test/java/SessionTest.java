import java.util.ArrayList;
import java.util.List;
import java.util.Random;

/**
 * Promises 1 to 20 for every run of calls: each session makes the 512 calls that an object is used
 * for, of all kinds and in an order of chance (always the same one), so that expressions,
 * statements and inputs come behind looks and runs, refused ones among them. Every answer is
 * compared with the reference.
 */
public final class SessionTest {
    private static final Check CHECK = new Check();
    private static final int MOST_CALLS = 512;
    private static final int MIN = Bench.MIN;
    private static final int MAX = Bench.MAX;
    private static final int BIG = Bench.BIG;
    private static final String[] CALLS = {"leaf", "apply", "assign", "raise", "leave", "branch",
        "loop", "attempt", "otherwise", "end", "feed", "look", "alarm", "seen", "bound", "run",
        "place", "type", "number"};
    private static final int[] OFTEN = {8, 8, 8, 1, 6, 3, 4, 3, 4, 9, 2, 8, 4, 9, 9, 8, 3, 5, 5};
    private static final int ASSIGN = 2;
    private static final int OTHERWISE = 8;
    private static final int LOOK = 11;
    private static final int RUN = 15;
    private static final int[] NUMBERS = {0, 1, 1, 2, 3, 7, 15, 16, 17, -1, -2, -16, -17, BIG, -BIG};
    private static final int[] LENGTHS = {0, 1, 3, 16, 17, BIG};

    /** How often each call was taken, and how often it was refused. */
    private static final int[] TAKEN = new int[CALLS.length];
    private static final int[] REFUSED = new int[CALLS.length];
    private static int ends;
    private static int errors;
    private static int outs;
    private static int alarms;

    private final Random chance;
    private final TypeForecast x = new TypeForecast();
    private final Reference r = new Reference();
    private final String name;
    private final int[] weights = new int[CALLS.length];
    /** The expressions that mostly give numbers, so that programs don't end in errors too soon. */
    private final List<Integer> numeric = new ArrayList<>();
    private int calls;

    private SessionTest(int seed) {
        chance = new Random(seed);
        name = "session " + seed;
        boolean slow = chance.nextInt(3) > 0;
        for (int call = 0; call < CALLS.length; call++) {
            boolean builds = call >= ASSIGN && call < OTHERWISE;
            weights[call] = OFTEN[call] * (1 + chance.nextInt(4)) * (builds && slow ? 1 : 3);
        }
    }

    public static void main(String[] args) {
        int sessions = args.length > 0 ? Integer.parseInt(args[0]) : 3000;
        for (int seed = 0; seed < sessions && !CHECK.failed(); seed++) {
            new SessionTest(seed).goThrough();
        }
        for (int call = 0; call < CALLS.length; call++) {
            CHECK.yes(CALLS[call] + " was taken often", TAKEN[call] > sessions);
            CHECK.yes(CALLS[call] + " was refused often", REFUSED[call] > sessions || asks(call));
        }
        CHECK.yes("runs came to their ends", ends > sessions);
        CHECK.yes("runs came to errors", errors > sessions);
        CHECK.yes("runs were out", outs > sessions);
        CHECK.yes("alarms were found", alarms > sessions);
        CHECK.finish();
    }

    private int one(int... choices) {
        return choices[chance.nextInt(choices.length)];
    }

    private boolean rarely() {
        return chance.nextInt(20) == 0;
    }

    /** Mostly a number from a row, seldom one that lies beside it. */
    private int within(int least, int greatest) {
        if (rarely() || greatest < least) {
            return one(least - 1, greatest + 1, MIN, MAX);
        }
        return least + chance.nextInt(greatest - least + 1);
    }

    private int expression() {
        if (!numeric.isEmpty() && chance.nextInt(3) > 0) {
            return numeric.get(chance.nextInt(numeric.size()));
        }
        return within(0, r.expressions() - 1);
    }

    private void goThrough() {
        if (chance.nextInt(8) > 0) {
            settle();
        }
        while (calls < MOST_CALLS) {
            call(chosen());
        }
    }

    /** A beginning after which there is something to work with. */
    private void settle() {
        for (int v = 0; v < 5; v++) {
            leaf(3, v);
        }
        leaf(4, 0);
        leaf(0, one(NUMBERS));
        for (int v = 0; v < 5; v++) {
            int e = one(5, 6);
            if (!rarely()) {
                told(ASSIGN, "(" + v + ", " + e + ")", x.assign(v, e), r.assign(v, e));
            }
        }
    }

    private int chosen() {
        int sum = 0;
        for (int weight : weights) {
            sum += weight;
        }
        int at = chance.nextInt(sum);
        int call = 0;
        while (at >= weights[call]) {
            at -= weights[call];
            call++;
        }
        return call;
    }

    private void told(int call, String arguments, int got, int due) {
        calls++;
        CHECK.same(name + ", call " + calls + ": " + CALLS[call] + arguments, got, due);
        if (due == -1) {
            REFUSED[call]++;
        } else {
            TAKEN[call]++;
        }
    }

    private void told(int call, String arguments, boolean got, boolean due) {
        told(call, arguments, got ? 1 : -1, due ? 1 : -1);
    }

    private void leaf(int kind, int n) {
        int e = r.leaf(kind, n);
        told(0, "(" + kind + ", " + n + ")", x.leaf(kind, n), e);
        if (e >= 0 && (kind == 0 || kind == 3 || kind == 4)) {
            numeric.add(e);
        }
    }

    private void apply(int operation, int a, int b) {
        int e = r.apply(operation, a, b);
        told(1, "(" + operation + ", " + a + ", " + b + ")", x.apply(operation, a, b), e);
        if (e >= 0 && operation != 7) {
            numeric.add(e);
        }
    }

    private void call(int call) {
        if (call < OTHERWISE) {
            build(call);
        } else if (asks(call)) {
            ask(call);
        } else {
            change(call);
        }
    }

    private static boolean asks(int call) {
        return call > LOOK && call != RUN;
    }

    private void build(int call) {
        int e = expression();
        switch (call) {
            case 0:
                int kind = within(0, 4);
                leaf(kind, kind == 0 && !rarely() ? one(NUMBERS) : kind == 1 && !rarely()
                        ? one(LENGTHS) : kind > 1 ? within(0, 4) : one(-1, BIG + 1, -BIG - 1));
                break;
            case 1:
                boolean narrows = chance.nextInt(3) == 0 && r.expressions() > 5;
                int operation = narrows ? one(4, 5) : within(0, 7);
                apply(operation, narrows ? chance.nextInt(5) : e, expression());
                break;
            case ASSIGN:
                int v = within(0, 4);
                told(call, "(" + v + ", " + e + ")", x.assign(v, e), r.assign(v, e));
                break;
            case 3:
                int raised = within(1, 4);
                told(call, "(" + raised + ")", x.raise(raised), r.raise(raised));
                break;
            case 4:
                boolean again = chance.nextBoolean();
                told(call, "(" + again + ")", x.leave(again), r.leave(again));
                break;
            case 5:
                told(call, "(" + e + ")", x.branch(e), r.branch(e));
                break;
            case 6:
                told(call, "(" + e + ")", x.loop(e), r.loop(e));
                break;
            default:
                int caught = chance.nextBoolean() ? 0 : within(0, 4);
                told(call, "(" + caught + ")", x.attempt(caught), r.attempt(caught));
        }
    }

    private void change(int call) {
        switch (call) {
            case OTHERWISE:
                told(call, "()", x.otherwise(), r.otherwise());
                break;
            case 9:
                told(call, "()", x.end(), r.end());
                break;
            case 10:
                int n = rarely() ? one(BIG + 1, -BIG - 1, MIN, MAX) : one(NUMBERS);
                told(call, "(" + n + ")", x.feed(n), r.feed(n));
                break;
            case LOOK:
                int found = r.look();
                told(call, "()", x.look(), found);
                alarms += Math.max(found, 0);
                break;
            default:
                int limit = chance.nextBoolean() ? within(0, 30) : within(0, 1000);
                int answer = r.run(limit);
                told(call, "(" + limit + ")", x.run(limit), answer);
                ends += answer == 0 ? 1 : 0;
                errors += answer > 0 ? 1 : 0;
                outs += answer == -2 ? 1 : 0;
        }
    }

    private void ask(int call) {
        int s = within(-1, r.statements() - 1);
        int v = within(0, 4);
        switch (call) {
            case 12:
                int kind = within(1, 4);
                for (int i = 0; i < 30 && !r.alarm(kind, s); i++) {
                    kind = within(1, 4);
                    s = within(-1, r.statements() - 1);
                }
                told(call, "(" + kind + ", " + s + ")", x.alarm(kind, s), r.alarm(kind, s));
                break;
            case 13:
                told(call, "(" + s + ", " + v + ")", x.seen(s, v), r.seen(s, v));
                break;
            case 14:
                int which = within(0, 3);
                told(call, "(" + s + ", " + v + ", " + which + ")", x.bound(s, v, which),
                        r.bound(s, v, which));
                break;
            case 16:
                told(call, "()", x.place(), r.place());
                break;
            case 17:
                told(call, "(" + v + ")", x.type(v), r.type(v));
                break;
            default:
                told(call, "(" + v + ")", x.number(v), r.number(v));
        }
    }
}
