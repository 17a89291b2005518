/** Promises 17 to 20: what a run does, and what is left behind it. */
public final class RunTest {
    private static final Check CHECK = new Check();
    private static final int BIG = 1000000000;

    public static void main(String[] args) {
        promise17Refusals();
        promise17Steps();
        promise17StepsOfBlocks();
        promise17Inputs();
        promise17InputsTwiceInOneExpression();
        promise17OutOfRange();
        promise17OutIsNotCaught();
        promise17Errors();
        promise17Catching();
        promise17Leaving();
        promise18Place();
        promise19Type();
        promise20Number();
        operationsOnAllTypes();
        divisionRoundsDown();
        truthOfConditions();
        CHECK.finish();
    }

    private static void promise17Refusals() {
        TypeForecast x = new TypeForecast();
        CHECK.same("run(-1)", x.run(-1), -1);
        CHECK.same("run(1001)", x.run(1001), -1);
        CHECK.same("run(min)", x.run(Integer.MIN_VALUE), -1);
        CHECK.same("run(max)", x.run(Integer.MAX_VALUE), -1);
        CHECK.same("run(1000)", x.run(1000), 0);
        CHECK.same("an empty program makes no step", x.run(0), 0);
        x.attempt(0);
        CHECK.same("run while open", x.run(5), -1);
        x.end();
        CHECK.same("run", x.run(5), 0);
    }

    private static void promise17Steps() {
        TypeForecast x = new TypeForecast();
        int five = x.leaf(0, 5);
        x.assign(0, five);
        x.assign(1, five);
        CHECK.same("run(0)", x.run(0), -2);
        CHECK.same("place", x.place(), 0);
        CHECK.same("nothing done", x.type(0), 8);
        CHECK.same("run(1)", x.run(1), -2);
        CHECK.same("place", x.place(), 1);
        CHECK.same("one done", x.type(0), 1);
        CHECK.same("the other not", x.type(1), 8);
        CHECK.same("run(2) is enough", x.run(2), 0);
        CHECK.same("place", x.place(), -1);
    }

    private static int leastLimit(TypeForecast x) {
        for (int limit = 0; limit <= 1000; limit++) {
            if (x.run(limit) != -2) {
                return limit;
            }
        }
        return -1;
    }

    private static void promise17StepsOfBlocks() {
        TypeForecast x = new TypeForecast();
        int zero = x.leaf(0, 0);
        int one = x.leaf(0, 1);
        x.branch(zero);
        x.end();
        CHECK.same("a branch is one step", leastLimit(x), 1);
        x.attempt(0);
        x.end();
        CHECK.same("a TRY is one step", leastLimit(x), 2);
        x.loop(zero);
        x.end();
        CHECK.same("a loop is one step when it does nothing", leastLimit(x), 3);
        x.loop(one);
        x.leave(false);
        x.end();
        CHECK.same("loop and BREAK", leastLimit(x), 5);
        x.attempt(4);
        x.raise(4);
        x.otherwise();
        x.assign(0, one);
        x.end();
        CHECK.same("TRY, RAISE, ASSIGN", leastLimit(x), 8);
        x.loop(x.leaf(3, 0));
        x.assign(0, zero);
        x.leave(true);
        x.end();
        CHECK.same("loop, ASSIGN, CONTINUE, condition", leastLimit(x), 12);
    }

    private static void promise17Inputs() {
        TypeForecast x = new TypeForecast();
        int input = x.leaf(4, 0);
        int other = x.leaf(4, 0);
        x.assign(0, input);
        x.branch(other);
        x.assign(1, input);
        x.end();
        x.feed(3);
        CHECK.same("the condition has 0", x.run(9), 0);
        CHECK.same("first input", x.number(0), 3);
        CHECK.same("not done", x.type(1), 8);
        x.feed(-2);
        x.feed(8);
        for (int i = 0; i < 2; i++) {
            CHECK.same("each run begins at the first one", x.run(9), 0);
            CHECK.same("first", x.number(0), 3);
            CHECK.same("third", x.number(1), 8);
        }
        CHECK.same("a run that stops early", x.run(1), -2);
        CHECK.same("and one behind it", x.run(9), 0);
        CHECK.same("first", x.number(0), 3);
    }

    private static void promise17InputsTwiceInOneExpression() {
        TypeForecast x = new TypeForecast();
        int input = x.leaf(4, 0);
        int none = x.leaf(2, 0);
        int difference = x.apply(1, input, input);
        int nested = x.apply(1, difference, difference);
        x.feed(100);
        x.feed(1);
        x.feed(20);
        x.feed(7);
        x.feed(50);
        x.assign(0, nested);
        CHECK.same("run", x.run(9), 0);
        CHECK.same("(100 - 1) - (20 - 7)", x.number(0), 86);

        TypeForecast y = new TypeForecast();
        input = y.leaf(4, 0);
        none = y.leaf(2, 0);
        int wrong = y.apply(1, y.apply(1, none, input), input);
        y.feed(5);
        y.feed(6);
        y.feed(7);
        y.attempt(1);
        y.assign(0, wrong);
        y.end();
        y.assign(1, input);
        CHECK.same("run", y.run(9), 0);
        CHECK.same("the inner right part is worked out, the outer one isn't", y.number(1), 6);
    }

    private static void promise17OutOfRange() {
        TypeForecast x = new TypeForecast();
        int big = x.leaf(0, BIG);
        int one = x.leaf(0, 1);
        int least = x.leaf(0, -BIG);
        x.assign(0, one);
        x.assign(0, x.apply(0, big, least));
        x.assign(0, x.apply(1, big, one));
        x.assign(0, x.apply(3, least, x.leaf(0, -1)));
        x.assign(1, x.apply(2, big, one));
        CHECK.same("all within", x.run(9), 0);
        CHECK.same("least / -1", x.number(0), BIG);
        int sum = x.apply(0, big, one);
        int over = x.assign(0, sum);
        CHECK.same("a sum beyond", x.run(9), -2);
        CHECK.same("place", x.place(), over);
        CHECK.same("unchanged", x.number(0), BIG);

        int[][] cases = {{1, 2, 1}, {2, 0, 0}, {2, 0, 2}, {0, 2, 2}, {1, 0, 2}};
        for (int[] c : cases) {
            TypeForecast y = new TypeForecast();
            y.leaf(0, BIG);
            y.leaf(0, 1);
            y.leaf(0, -BIG);
            y.assign(0, 1);
            y.branch(y.apply(c[0], c[1], c[2]));
            y.end();
            CHECK.same("a condition beyond", y.run(9), -2);
            CHECK.same("place", y.place(), 1);
            CHECK.same("number", y.number(0), 1);
        }

        TypeForecast z = new TypeForecast();
        int longest = z.leaf(1, BIG);
        int empty = z.leaf(1, 0);
        int letter = z.leaf(1, 1);
        z.assign(0, z.apply(0, longest, empty));
        CHECK.same("a text that is just not too long", z.run(9), 0);
        CHECK.same("its length", z.number(0), BIG);
        z.assign(0, z.apply(0, longest, letter));
        CHECK.same("a text that is too long", z.run(9), -2);
        CHECK.same("type", z.type(0), 2);
    }

    private static void promise17OutIsNotCaught() {
        TypeForecast x = new TypeForecast();
        int big = x.leaf(0, BIG);
        int none = x.leaf(2, 0);
        int over = x.apply(2, big, big);
        int input = x.leaf(4, 0);
        x.attempt(0);
        x.assign(0, x.apply(1, over, none));
        x.otherwise();
        x.assign(1, big);
        x.end();
        CHECK.same("out before the wrong type", x.run(9), -2);
        CHECK.same("place", x.place(), 1);
        CHECK.same("not caught", x.type(1), 8);
        CHECK.same("looking through has no limit", x.look(), 0);
        CHECK.same("only the wrong type", x.seen(3 - 1, 1), 8);

        TypeForecast y = new TypeForecast();
        big = y.leaf(0, BIG);
        none = y.leaf(2, 0);
        int wrong = y.apply(1, none, none);
        y.assign(0, y.apply(0, wrong, y.apply(0, big, big)));
        CHECK.same("the left error comes first", y.run(9), 100);
    }

    private static void promise17Errors() {
        TypeForecast x = new TypeForecast();
        int one = x.leaf(0, 1);
        int zero = x.leaf(0, 0);
        int text = x.leaf(1, 1);
        int v = x.leaf(3, 3);
        int[] wrong = {x.apply(0, one, text), x.apply(0, one, v), x.apply(3, one, zero)};
        x.assign(0, one);
        for (int i = 0; i < 3; i++) {
            x.attempt(0);
            x.assign(1, wrong[i]);
            x.otherwise();
            x.assign(i + 1 == 3 ? 4 : i + 1, one);
            x.end();
        }
        CHECK.same("all caught", x.run(100), 0);
        int[] kinds = {1, 2, 3};
        for (int i = 0; i < 3; i++) {
            TypeForecast y = new TypeForecast();
            one = y.leaf(0, 1);
            zero = y.leaf(0, 0);
            text = y.leaf(1, 1);
            v = y.leaf(3, 3);
            int[] bad = {y.apply(0, one, text), y.apply(0, one, v), y.apply(3, one, zero)};
            y.assign(0, one);
            y.loop(bad[i]);
            y.end();
            CHECK.same("uncaught", y.run(9), 100 * kinds[i] + 1);
            CHECK.same("place", y.place(), 1);
        }
    }

    private static void promise17Catching() {
        for (int raised = 1; raised <= 4; raised++) {
            for (int caught = 0; caught <= 4; caught++) {
                TypeForecast x = new TypeForecast();
                int one = x.leaf(0, 1);
                x.attempt(caught);
                x.branch(one);
                x.raise(raised);
                x.end();
                x.assign(0, one);
                x.otherwise();
                x.assign(1, one);
                x.end();
                x.assign(2, one);
                boolean catches = caught == 0 || caught == raised;
                CHECK.same("caught or not", x.run(9), catches ? 0 : 100 * raised + 2);
                CHECK.same("left the block", x.type(0), 8);
                CHECK.same("second block", x.type(1), catches ? 1 : 8);
                CHECK.same("behind", x.type(2), catches ? 1 : 8);
            }
        }
        TypeForecast y = new TypeForecast();
        int one = y.leaf(0, 1);
        y.attempt(0);
        y.assign(0, one);
        y.otherwise();
        y.assign(1, one);
        y.end();
        CHECK.same("no error", y.run(9), 0);
        CHECK.same("no second block", y.type(1), 8);
    }

    private static void promise17Leaving() {
        TypeForecast x = new TypeForecast();
        int zero = x.leaf(0, 0);
        int one = x.leaf(0, 1);
        int three = x.leaf(0, 3);
        int a = x.leaf(3, 0);
        int b = x.leaf(3, 1);
        x.assign(0, zero);
        x.assign(1, zero);
        x.loop(x.apply(4, a, three));
        x.assign(0, x.apply(0, a, one));
        x.loop(one);
        x.attempt(0);
        x.leave(false);
        x.otherwise();
        x.raise(4);
        x.end();
        x.raise(4);
        x.end();
        x.branch(x.apply(5, a, one));
        x.leave(true);
        x.end();
        x.assign(1, x.apply(0, b, one));
        x.end();
        CHECK.same("run", x.run(1000), 0);
        CHECK.same("the outer loop went on", x.number(0), 3);
        CHECK.same("CONTINUE left out one", x.number(1), 2);
    }

    private static void promise18Place() {
        TypeForecast x = new TypeForecast();
        int one = x.leaf(0, 1);
        CHECK.same("no run", x.place(), -1);
        x.loop(one);
        int inner = x.assign(0, one);
        x.end();
        CHECK.same("out at the condition", x.run(2), -2);
        CHECK.same("the loop", x.place(), 0);
        CHECK.same("out in the block", x.run(3), -2);
        CHECK.same("the statement in it", x.place(), inner);
        x.run(1001);
        CHECK.same("a refused run changes nothing", x.place(), inner);

        TypeForecast y = new TypeForecast();
        y.raise(4);
        CHECK.same("out before RAISE", y.run(0), -2);
        CHECK.same("place", y.place(), 0);
        CHECK.same("error", y.run(1), 400);
        CHECK.same("place", y.place(), 0);

        TypeForecast z = new TypeForecast();
        z.attempt(0);
        z.raise(1);
        z.end();
        z.run(0);
        CHECK.same("place", z.place(), 0);
        z.run(5);
        CHECK.same("a run that came to its end", z.place(), -1);
    }

    private static void promise19Type() {
        TypeForecast x = new TypeForecast();
        x.assign(0, x.leaf(0, 0));
        x.assign(1, x.leaf(1, 0));
        x.assign(2, x.leaf(2, 0));
        x.raise(4);
        CHECK.same("no run", x.type(0), 8);
        x.run(3);
        int[] due = {1, 2, 4, 8, 8};
        for (int v = 0; v < 5; v++) {
            CHECK.same("type(" + v + ") when out", x.type(v), due[v]);
        }
        x.run(4);
        for (int v = 0; v < 5; v++) {
            CHECK.same("type(" + v + ") at an error", x.type(v), due[v]);
        }
        x.run(1);
        CHECK.same("all are unbound at first", x.type(1), 8);
        CHECK.same("type(-1)", x.type(-1), -1);
        CHECK.same("type(5)", x.type(5), -1);
        CHECK.same("type(min)", x.type(Integer.MIN_VALUE), -1);
        CHECK.same("type(max)", x.type(Integer.MAX_VALUE), -1);
    }

    private static void promise20Number() {
        TypeForecast x = new TypeForecast();
        x.assign(0, x.leaf(0, -BIG));
        x.assign(1, x.leaf(1, BIG));
        x.assign(2, x.leaf(2, 77));
        CHECK.same("no run", x.number(0), 0);
        x.run(3);
        int[] due = {-BIG, BIG, 0, 0, 0};
        for (int v = 0; v < 5; v++) {
            CHECK.same("number(" + v + ")", x.number(v), due[v]);
        }
        CHECK.same("number(-1)", x.number(-1), 0);
        CHECK.same("number(5)", x.number(5), 0);
        CHECK.same("number(max)", x.number(Integer.MAX_VALUE), 0);
        x.assign(0, x.leaf(2, 0));
        x.run(4);
        CHECK.same("none holds no number", x.number(0), 0);
    }

    /** Left and right are 6, a text of length 6 and none; -1 stands for error 1. */
    private static void operationsOnAllTypes() {
        int[][] due = {
            {12, -1, -1, -1, 12, -1, -1, -1, -1},
            {0, -1, -1, -1, -1, -1, -1, -1, -1},
            {36, -1, -1, -1, -1, -1, -1, -1, -1},
            {1, -1, -1, -1, -1, -1, -1, -1, -1},
            {0, -1, -1, -1, 0, -1, -1, -1, -1},
            {1, 0, 0, 0, 1, 0, 0, 0, 1},
            {0, 0, 0, 0, 0, 0, 1, 1, 1},
            {-1, -1, -1, 6, 6, 6, -1, -1, -1},
        };
        for (int operation = 0; operation < 8; operation++) {
            for (int pair = 0; pair < 9; pair++) {
                TypeForecast x = new TypeForecast();
                x.leaf(0, 6);
                x.leaf(1, 6);
                x.leaf(2, 6);
                x.assign(0, x.apply(operation, pair / 3, pair % 3));
                int want = due[operation][pair];
                String what = "operation " + operation + " of pair " + pair;
                CHECK.same(what, x.run(5), want == -1 ? 100 : 0);
                CHECK.same(what, x.number(0), want == -1 ? 0 : want);
                boolean text = operation == 0 && pair == 4;
                CHECK.same(what, x.type(0), want == -1 ? 8 : text ? 2 : 1);
                CHECK.same(what + " looked through", x.look(), want == -1 ? 1 : 0);
                CHECK.same(what + " seen", x.seen(-1, 0), want == -1 ? 0 : text ? 2 : 1);
            }
        }
    }

    private static void divisionRoundsDown() {
        int[][] cases = {{7, 2, 3}, {-7, 2, -4}, {7, -2, -4}, {-7, -2, 3}, {6, -2, -3}, {0, -5, 0},
            {1, BIG, 0}, {-1, BIG, -1}, {-BIG, 1, -BIG}, {1, -BIG, -1}};
        for (int[] c : cases) {
            TypeForecast x = new TypeForecast();
            x.assign(0, x.apply(3, x.leaf(0, c[0]), x.leaf(0, c[1])));
            x.run(3);
            CHECK.same(c[0] + " / " + c[1], x.number(0), c[2]);
        }
    }

    private static void truthOfConditions() {
        int[][] cases = {{0, 0, 0}, {0, 1, 1}, {0, -1, 1}, {1, 0, 0}, {1, 1, 1}, {2, 5, 0}};
        for (int[] c : cases) {
            TypeForecast x = new TypeForecast();
            int one = x.leaf(0, 1);
            int condition = x.leaf(c[0], c[1]);
            x.assign(0, condition);
            x.branch(condition);
            x.assign(1, one);
            x.end();
            x.loop(condition);
            x.assign(2, one);
            x.leave(false);
            x.end();
            x.run(20);
            CHECK.same("branch on leaf " + c[0] + " " + c[1], x.type(1), c[2] == 1 ? 1 : 8);
            CHECK.same("loop on leaf " + c[0] + " " + c[1], x.type(2), c[2] == 1 ? 1 : 8);
        }
    }
}
