import java.util.ArrayList;
import java.util.List;
import java.util.Random;

/**
 * Promises 1 to 20 on many programs put together by chance (always the same ones): every answer is
 * compared with the reference, and every run must keep to what the looking through foretold.
 */
public final class OracleTest {
    private static final Check CHECK = new Check();
    private static final int[] NUMBERS = {0, 0, 1, 1, 2, 3, 5, 7, 10, 15, 16, 17, 40, -1, -1, -2,
        -3, -8, -15, -16, -17, -50, 1000000000, -1000000000};
    private static final int[] LENGTHS = {0, 0, 1, 2, 3, 5, 15, 16, 17, 1000000000};
    /** What the variables mostly hold, so that programs don't end in errors too soon. */
    private static final int[] CUSTOM = {1, 1, 2, 7, 7};

    private static long placesLooked;
    private static long placesReached;

    private final Random chance;
    private final Subject x = new Subject();
    private final Reference r = new Reference();
    private final String name;
    private final List<Integer> hints = new ArrayList<>();
    private final List<Integer> safe = new ArrayList<>();

    private OracleTest(int seed) {
        chance = new Random(seed);
        name = "program " + seed + ": ";
    }

    public static void main(String[] args) {
        int programs = args.length > 0 ? Integer.parseInt(args[0]) : 4000;
        for (int seed = 0; seed < programs && !CHECK.failed(); seed++) {
            new OracleTest(seed).goThrough();
        }
        System.out.println(placesReached + " of " + placesLooked + " places were reached");
        CHECK.yes("most programs are of some use", placesReached * 2 > placesLooked);
        CHECK.finish();
    }

    private int one(int... choices) {
        return choices[chance.nextInt(choices.length)];
    }

    private boolean rarely() {
        return chance.nextInt(16) == 0;
    }

    private void goThrough() {
        for (int v = 0; v < 5; v++) {
            addLeaf(3, v);
        }
        addLeaf(4, 0);
        addLeaf(2, 0);
        int expressions = 10 + chance.nextInt(50);
        for (int i = 0; i < expressions; i++) {
            addExpression();
        }
        int inputs = chance.nextInt(10);
        for (int i = 0; i < inputs; i++) {
            int n = one(NUMBERS) * (rarely() ? 2 : 1);
            CHECK.same(name + "feed", x.feed(n) ? 1 : 0, r.feed(n) ? 1 : 0);
        }
        for (int v = 0; v < 5; v++) {
            boolean later = chance.nextInt(4) == 0;
            if (later) {
                CHECK.same(name + "branch", x.branch(5), r.branch(5));
            }
            if (!rarely()) {
                addAssign(v, leafLike(CUSTOM[v]));
            }
            if (later) {
                CHECK.same(name + "end", x.end() ? 1 : 0, r.end() ? 1 : 0);
            }
        }
        int statements = 3 + chance.nextInt(40);
        for (int i = 0; i < statements; i++) {
            addStatement();
            if (rarely()) {
                compareLook();
                compareRun(one(5, 30, 200));
            }
        }
        while (r.end()) {
            CHECK.yes(name + "end", x.end());
        }
        CHECK.no(name + "end", x.end());
        compareLook();
        compareRun(one(0, 1, 2, 3, 7, 20));
        compareRun(1000);
    }

    private void addLeaf(int kind, int n) {
        int e = r.leaf(kind, n);
        CHECK.same(name + "leaf", x.leaf(kind, n), e);
        if (e >= 0) {
            hints.add(kind == 0 || kind == 4 ? 1 : kind == 1 ? 2 : kind == 2 ? 4 : CUSTOM[n]);
            if (kind != 3) {
                safe.add(e);
            }
        }
    }

    private void addExpression() {
        if (chance.nextInt(3) == 0) {
            int kind = rarely() ? chance.nextInt(8) - 1 : one(0, 0, 1);
            addLeaf(kind, kind == 0 ? one(NUMBERS) : kind == 1 ? one(LENGTHS) : one(0, 4, 5));
            return;
        }
        int operation = rarely() ? one(-1, 8) : chance.nextInt(8);
        int type = operation == 7 || (operation == 0 || operation == 4) && chance.nextInt(3) == 0
                ? 2 : 1;
        boolean any = operation == 5 || operation == 6;
        int a = any ? someExpression() : like(type);
        int b = any ? someExpression() : like(type);
        if (rarely()) {
            a = one(-1, hints.size());
        }
        if (rarely()) {
            b = one(-1, hints.size());
        }
        if ((operation == 4 || operation == 5) && chance.nextInt(3) > 0) {
            a = operation == 4 && type == 2 ? 2 : chance.nextInt(5);
        }
        int e = r.apply(operation, a, b);
        CHECK.same(name + "apply", x.apply(operation, a, b), e);
        if (e >= 0) {
            hints.add(operation == 0 ? type : 1);
        }
    }

    private int someExpression() {
        return chance.nextInt(hints.size());
    }

    /** An expression that is mostly of a type. */
    private int like(int type) {
        int e = someExpression();
        for (int i = 0; i < 10 && (hints.get(e) & type) == 0 && !rarely(); i++) {
            e = someExpression();
        }
        return e;
    }

    /** A leaf that raises nothing, mostly of a type. */
    private int leafLike(int type) {
        int e = safe.get(chance.nextInt(safe.size()));
        for (int i = 0; i < 10 && (hints.get(e) & type) == 0; i++) {
            e = safe.get(chance.nextInt(safe.size()));
        }
        return e;
    }

    private void addAssign(int v, int e) {
        CHECK.same(name + "assign", x.assign(v, e), r.assign(v, e));
    }

    private void addStatement() {
        int condition = one(5, someExpression(), like(1), like(1), chance.nextInt(5));
        switch (chance.nextInt(16)) {
            case 0:
                if (chance.nextInt(3) == 0) {
                    int raised = chance.nextInt(6);
                    CHECK.same(name + "raise", x.raise(raised), r.raise(raised));
                }
                break;
            case 1:
                boolean again = chance.nextBoolean();
                CHECK.same(name + "leave", x.leave(again), r.leave(again));
                break;
            case 2:
            case 3:
            case 4:
                CHECK.same(name + "branch", x.branch(condition), r.branch(condition));
                break;
            case 5:
            case 6:
                CHECK.same(name + "loop", x.loop(condition), r.loop(condition));
                break;
            case 7:
            case 8:
                int caught = one(0, 0, 0, 1, 2, 3, 4, 5);
                CHECK.same(name + "attempt", x.attempt(caught), r.attempt(caught));
                break;
            case 9:
                CHECK.same(name + "otherwise", x.otherwise() ? 1 : 0, r.otherwise() ? 1 : 0);
                break;
            case 10:
            case 11:
                CHECK.same(name + "end", x.end() ? 1 : 0, r.end() ? 1 : 0);
                break;
            default:
                int v = chance.nextInt(5);
                addAssign(v, chance.nextInt(5) == 0 ? chance.nextInt(5) : like(CUSTOM[v]));
        }
    }

    private void compareLook() {
        int alarms = r.look();
        CHECK.same(name + "look", x.look(), alarms);
        if (alarms < 0) {
            return;
        }
        for (int s = -1; s < r.statements(); s++) {
            placesLooked++;
            placesReached += r.seen(s, 0) == 0 ? 0 : 1;
            for (int v = 0; v < 5; v++) {
                CHECK.same(name + "seen(" + s + ", " + v + ")", x.seen(s, v), r.seen(s, v));
                for (int which = 0; which < 4; which++) {
                    CHECK.same(name + "bound(" + s + ", " + v + ", " + which + ")",
                            x.bound(s, v, which), r.bound(s, v, which));
                }
            }
            for (int kind = 1; kind <= 4 && s >= 0; kind++) {
                CHECK.same(name + "alarm(" + kind + ", " + s + ")", x.alarm(kind, s) ? 1 : 0,
                        r.alarm(kind, s) ? 1 : 0);
            }
        }
    }

    private void compareRun(int limit) {
        int answer = r.run(limit);
        CHECK.same(name + "run(" + limit + ")", x.run(limit), answer);
        CHECK.same(name + "place", x.place(), r.place());
        for (int v = 0; v < 5; v++) {
            CHECK.same(name + "type(" + v + ")", x.type(v), r.type(v));
            CHECK.same(name + "number(" + v + ")", x.number(v), r.number(v));
        }
        if (answer == -1) {
            return;
        }
        if (answer >= 100) {
            CHECK.yes(name + "the error was foretold", x.alarm(answer / 100, answer % 100));
        }
        for (int v = 0; v < 5; v++) {
            keepsTo(x.place(), v);
        }
    }

    /** A run that stopped before or in a statement stands in one of the states before it. */
    private void keepsTo(int statement, int v) {
        int type = x.type(v);
        CHECK.same(name + "the type of " + v + " was foretold", x.seen(statement, v) & type, type);
        if (type > 2) {
            return;
        }
        int low = x.bound(statement, v, type * 2 - 2);
        int high = x.bound(statement, v, type * 2 - 1);
        CHECK.yes(name + "the low bound of " + v, low == -17 || low <= x.number(v));
        CHECK.yes(name + "the high bound of " + v, high == 17 || high >= x.number(v));
    }
}
