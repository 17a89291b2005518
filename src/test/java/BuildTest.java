/** Promises 1 to 12: a program is put together, and what doesn't fit is refused. */
public final class BuildTest {
    private static final Check CHECK = new Check();
    private static final int BIG = 1000000000;

    public static void main(String[] args) {
        promise1NewObject();
        promise2Leaf();
        promise2LeafLimit();
        promise3Apply();
        promise3Weight();
        promise3Limit();
        promise4Assign();
        promise5Raise();
        promise6Leave();
        promises7To9Openers();
        promises7To9OpenLimit();
        promises4To9StatementLimit();
        promise10Otherwise();
        promise11End();
        promise12Feed();
        refusedCallsChangeNothing();
        objectsAreApart();
        CHECK.finish();
    }

    private static void promise1NewObject() {
        TypeForecast x = new TypeForecast();
        CHECK.same("new: place()", x.place(), -1);
        for (int v = 0; v < 5; v++) {
            CHECK.same("new: seen(-1, " + v + ")", x.seen(-1, v), 0);
            CHECK.same("new: type(" + v + ")", x.type(v), 8);
            CHECK.same("new: number(" + v + ")", x.number(v), 0);
            CHECK.same("new: bound(-1, v, 0)", x.bound(-1, v, 0), 99);
        }
        CHECK.same("new: seen(0, 0)", x.seen(0, 0), -1);
        CHECK.no("new: alarm(1, 0)", x.alarm(1, 0));
        CHECK.no("new: otherwise()", x.otherwise());
        CHECK.no("new: end()", x.end());
        CHECK.same("new: assign(0, 0)", x.assign(0, 0), -1);
        CHECK.same("new: branch(0)", x.branch(0), -1);
        CHECK.same("new: apply(6, 0, 0)", x.apply(6, 0, 0), -1);
        CHECK.same("new: look()", x.look(), 0);
        CHECK.same("new: seen(-1, 0) after look", x.seen(-1, 0), 8);
        CHECK.same("new: run(0)", x.run(0), 0);
        CHECK.same("new: place() after run", x.place(), -1);
    }

    private static void promise2Leaf() {
        TypeForecast x = new TypeForecast();
        CHECK.same("leaf(-1, 0)", x.leaf(-1, 0), -1);
        CHECK.same("leaf(5, 0)", x.leaf(5, 0), -1);
        CHECK.same("leaf(min, 0)", x.leaf(Integer.MIN_VALUE, 0), -1);
        CHECK.same("leaf(max, 0)", x.leaf(Integer.MAX_VALUE, 0), -1);
        CHECK.same("leaf(0, BIG + 1)", x.leaf(0, BIG + 1), -1);
        CHECK.same("leaf(0, -BIG - 1)", x.leaf(0, -BIG - 1), -1);
        CHECK.same("leaf(0, min)", x.leaf(0, Integer.MIN_VALUE), -1);
        CHECK.same("leaf(1, -1)", x.leaf(1, -1), -1);
        CHECK.same("leaf(1, BIG + 1)", x.leaf(1, BIG + 1), -1);
        CHECK.same("leaf(3, -1)", x.leaf(3, -1), -1);
        CHECK.same("leaf(3, 5)", x.leaf(3, 5), -1);
        CHECK.same("leaf(0, BIG)", x.leaf(0, BIG), 0);
        CHECK.same("leaf(0, -BIG)", x.leaf(0, -BIG), 1);
        CHECK.same("leaf(1, 0)", x.leaf(1, 0), 2);
        CHECK.same("leaf(1, BIG)", x.leaf(1, BIG), 3);
        CHECK.same("leaf(2, min)", x.leaf(2, Integer.MIN_VALUE), 4);
        CHECK.same("leaf(4, max)", x.leaf(4, Integer.MAX_VALUE), 5);
        CHECK.same("leaf(3, 0)", x.leaf(3, 0), 6);
        CHECK.same("leaf(3, 4)", x.leaf(3, 4), 7);
        x.feed(-33);
        int[] leaves = {0, 1, 3, 4, 5};
        int[] types = {1, 1, 2, 4, 1};
        int[] numbers = {BIG, -BIG, BIG, 0, -33};
        for (int v = 0; v < 5; v++) {
            x.assign(v, leaves[v]);
        }
        CHECK.same("run of leaves", x.run(10), 0);
        for (int v = 0; v < 5; v++) {
            CHECK.same("type of leaf " + leaves[v], x.type(v), types[v]);
            CHECK.same("number of leaf " + leaves[v], x.number(v), numbers[v]);
        }
    }

    private static void promise2LeafLimit() {
        TypeForecast x = new TypeForecast();
        for (int i = 0; i < 60; i++) {
            CHECK.same("leaf " + i, x.leaf(i % 5, i % 5), i);
        }
        for (int kind = 0; kind < 5; kind++) {
            CHECK.same("leaf beyond 60", x.leaf(kind, 0), -1);
        }
        CHECK.same("the 60th leaf is there", x.assign(0, 59), 0);
        CHECK.same("no 61st leaf", x.assign(0, 60), -1);
    }

    private static void promise3Apply() {
        TypeForecast x = new TypeForecast();
        x.leaf(0, 1);
        x.leaf(0, 2);
        CHECK.same("apply(-1, 0, 0)", x.apply(-1, 0, 0), -1);
        CHECK.same("apply(8, 0, 0)", x.apply(8, 0, 0), -1);
        for (int operation = 0; operation < 6; operation++) {
            CHECK.same("left part -1", x.apply(operation, -1, 0), -1);
            CHECK.same("left part 2", x.apply(operation, 2, 0), -1);
            CHECK.same("right part -1", x.apply(operation, 0, -1), -1);
            CHECK.same("right part 2", x.apply(operation, 0, 2), -1);
            CHECK.same("right part max", x.apply(operation, 0, Integer.MAX_VALUE), -1);
        }
        CHECK.same("NOT of -1", x.apply(6, -1, 0), -1);
        CHECK.same("NOT of 2", x.apply(6, 2, 0), -1);
        CHECK.same("LENGTH of min", x.apply(7, Integer.MIN_VALUE, 0), -1);
        for (int operation = 0; operation < 6; operation++) {
            CHECK.same("apply " + operation, x.apply(operation, 0, 1), 2 + operation);
        }
        CHECK.same("NOT, b not looked at", x.apply(6, 0, -5), 8);
        CHECK.same("LENGTH, b not looked at", x.apply(7, 0, 99), 9);
        int[] due = {3, -1, 2, 0, 1};
        for (int v = 0; v < 5; v++) {
            x.assign(v, 2 + v);
        }
        x.run(100);
        for (int v = 0; v < 5; v++) {
            CHECK.same("operation " + v + " of 1 and 2", x.number(v), due[v]);
        }
    }

    private static void promise3Weight() {
        TypeForecast x = new TypeForecast();
        x.leaf(0, 1);
        CHECK.same("weight 3", x.apply(0, 0, 0), 1);
        CHECK.same("weight 7", x.apply(0, 1, 1), 2);
        CHECK.same("weight 15", x.apply(0, 2, 2), 3);
        CHECK.same("weight 16 by NOT", x.apply(6, 3, 0), -1);
        CHECK.same("weight 17 by ADD", x.apply(0, 3, 0), -1);
        CHECK.same("weight 17, heavy part right", x.apply(0, 0, 3), -1);
        CHECK.same("weight 31", x.apply(0, 3, 3), -1);
        CHECK.same("weight 8", x.apply(6, 2, 0), 4);
        CHECK.same("weight 8 + 7 + 1", x.apply(0, 4, 2), -1);
        CHECK.same("weight 8 of LENGTH", x.apply(7, 2, 0), 5);
        CHECK.same("weight 9", x.apply(6, 4, 0), 6);
        int deepest = 0;
        for (int i = 0; i < 14; i++) {
            int deeper = x.apply(6, deepest, 0);
            CHECK.same("NOT chain " + i, deeper, 7 + i);
            deepest = deeper;
        }
        CHECK.same("NOT chain of 15", x.apply(6, deepest, 0), -1);
        x.assign(0, deepest);
        x.assign(1, 3);
        CHECK.same("deep expressions are looked through", x.look(), 0);
        CHECK.same("deep NOT low", x.bound(-1, 0, 0), 1);
        CHECK.same("wide ADD high", x.bound(-1, 1, 1), 8);
        CHECK.same("deep expressions run", x.run(9), 0);
        CHECK.same("deep NOT", x.number(0), 1);
        CHECK.same("wide ADD", x.number(1), 8);
    }

    private static void promise3Limit() {
        TypeForecast x = new TypeForecast();
        x.leaf(0, 1);
        for (int i = 1; i < 60; i++) {
            CHECK.same("operation " + i, x.apply(i % 6, 0, 0), i);
        }
        CHECK.same("operation beyond 60", x.apply(0, 0, 0), -1);
        CHECK.same("NOT beyond 60", x.apply(6, 0, 0), -1);
        CHECK.same("leaf beyond 60 operations", x.leaf(0, 0), -1);
    }

    private static void promise4Assign() {
        TypeForecast x = new TypeForecast();
        x.leaf(0, 5);
        CHECK.same("assign(-1, 0)", x.assign(-1, 0), -1);
        CHECK.same("assign(5, 0)", x.assign(5, 0), -1);
        CHECK.same("assign(0, -1)", x.assign(0, -1), -1);
        CHECK.same("assign(0, 1)", x.assign(0, 1), -1);
        CHECK.same("assign(4, 0)", x.assign(4, 0), 0);
        CHECK.same("assign(0, 0)", x.assign(0, 0), 1);
        CHECK.same("run(2)", x.run(2), 0);
        CHECK.same("number(4)", x.number(4), 5);
        CHECK.same("type(3)", x.type(3), 8);
    }

    private static void promise5Raise() {
        for (int kind = 1; kind <= 4; kind++) {
            TypeForecast x = new TypeForecast();
            CHECK.same("raise(0)", x.raise(0), -1);
            CHECK.same("raise(5)", x.raise(5), -1);
            CHECK.same("raise(-1)", x.raise(-1), -1);
            CHECK.same("raise", x.raise(kind), 0);
            CHECK.same("run of raise", x.run(1), 100 * kind);
            CHECK.same("look at raise", x.look(), 1);
            CHECK.yes("alarm of raise", x.alarm(kind, 0));
            CHECK.same("behind raise", x.seen(-1, 0), 0);
        }
    }

    private static void promise6Leave() {
        TypeForecast x = new TypeForecast();
        x.leaf(0, 1);
        CHECK.same("break outside", x.leave(false), -1);
        CHECK.same("continue outside", x.leave(true), -1);
        x.branch(0);
        CHECK.same("break in a branch alone", x.leave(false), -1);
        x.attempt(0);
        CHECK.same("continue in a TRY alone", x.leave(true), -1);
        x.loop(0);
        CHECK.same("break in a loop", x.leave(false), 3);
        x.branch(0);
        x.attempt(0);
        CHECK.same("break far in", x.leave(false), 6);
        x.otherwise();
        CHECK.same("continue far in", x.leave(true), 7);
        x.end();
        x.end();
        x.end();
        CHECK.same("break behind the loop", x.leave(false), -1);
    }

    private static void promises7To9Openers() {
        TypeForecast x = new TypeForecast();
        x.leaf(0, 1);
        CHECK.same("branch(-1)", x.branch(-1), -1);
        CHECK.same("branch(1)", x.branch(1), -1);
        CHECK.same("loop(-1)", x.loop(-1), -1);
        CHECK.same("loop(1)", x.loop(1), -1);
        CHECK.same("attempt(-1)", x.attempt(-1), -1);
        CHECK.same("attempt(5)", x.attempt(5), -1);
        CHECK.no("nothing was opened", x.end());
        CHECK.same("branch(0)", x.branch(0), 0);
        CHECK.yes("branch opened", x.end());
        CHECK.same("loop(0)", x.loop(0), 1);
        CHECK.yes("loop opened", x.end());
        for (int kind = 0; kind <= 4; kind++) {
            CHECK.same("attempt", x.attempt(kind), 2 + kind);
            CHECK.yes("TRY opened", x.end());
        }
        CHECK.no("all closed", x.end());
    }

    private static void promises7To9OpenLimit() {
        TypeForecast x = new TypeForecast();
        x.leaf(0, 0);
        CHECK.same("open 1", x.branch(0), 0);
        CHECK.same("open 2", x.loop(0), 1);
        CHECK.same("open 3", x.attempt(0), 2);
        CHECK.same("open 4", x.branch(0), 3);
        CHECK.same("open 5", x.loop(0), 4);
        CHECK.same("branch as the sixth", x.branch(0), -1);
        CHECK.same("loop as the sixth", x.loop(0), -1);
        CHECK.same("attempt as the sixth", x.attempt(0), -1);
        CHECK.same("assign in the fifth", x.assign(0, 0), 5);
        CHECK.yes("end", x.end());
        CHECK.same("a fifth one again", x.attempt(4), 6);
        for (int i = 0; i < 5; i++) {
            CHECK.yes("end", x.end());
        }
        CHECK.no("end of nothing", x.end());
    }

    private static void promises4To9StatementLimit() {
        TypeForecast x = new TypeForecast();
        x.leaf(0, 0);
        x.loop(0);
        for (int s = 1; s < 24; s++) {
            CHECK.same("statement " + s, x.assign(0, 0), s);
        }
        CHECK.same("25th assign", x.assign(0, 0), -1);
        CHECK.same("25th raise", x.raise(1), -1);
        CHECK.same("25th leave", x.leave(true), -1);
        CHECK.same("25th branch", x.branch(0), -1);
        CHECK.same("25th loop", x.loop(0), -1);
        CHECK.same("25th attempt", x.attempt(0), -1);
        CHECK.yes("only the loop is open", x.end());
        CHECK.no("nothing else is open", x.end());
        CHECK.same("look at 24 statements", x.look(), 0);
        CHECK.same("seen(23, 0)", x.seen(23, 0), 0);
        CHECK.same("seen(24, 0)", x.seen(24, 0), -1);
    }

    private static void promise10Otherwise() {
        TypeForecast x = new TypeForecast();
        x.leaf(0, 0);
        x.leaf(0, 7);
        CHECK.no("otherwise of nothing", x.otherwise());
        x.loop(0);
        CHECK.no("otherwise of a loop", x.otherwise());
        x.branch(0);
        CHECK.yes("otherwise of a branch", x.otherwise());
        CHECK.no("otherwise twice", x.otherwise());
        x.attempt(1);
        CHECK.yes("otherwise of a TRY", x.otherwise());
        CHECK.no("otherwise of a TRY twice", x.otherwise());
        x.end();
        CHECK.no("still the branch's second block", x.otherwise());
        x.end();
        CHECK.no("the loop again", x.otherwise());
        x.end();
        CHECK.no("nothing again", x.otherwise());

        TypeForecast y = new TypeForecast();
        y.leaf(0, 0);
        y.leaf(0, 7);
        y.leaf(0, 8);
        y.branch(0);
        y.assign(0, 1);
        y.otherwise();
        y.assign(1, 2);
        y.end();
        y.run(9);
        CHECK.same("first block was not done", y.type(0), 8);
        CHECK.same("second block was done", y.number(1), 8);
    }

    private static void promise11End() {
        TypeForecast x = new TypeForecast();
        x.leaf(0, 0);
        x.leaf(0, 7);
        CHECK.no("end of nothing", x.end());
        x.branch(0);
        x.assign(0, 1);
        CHECK.yes("end without otherwise", x.end());
        x.assign(1, 1);
        CHECK.same("run past an empty second block", x.run(9), 0);
        CHECK.same("branch was not done", x.type(0), 8);
        CHECK.same("behind the branch", x.number(1), 7);
        x.attempt(0);
        x.raise(4);
        CHECK.yes("end of a TRY without otherwise", x.end());
        CHECK.same("caught by an empty second block", x.run(9), 0);
        x.attempt(0);
        x.otherwise();
        CHECK.yes("end of a second block", x.end());
        CHECK.no("nothing is open", x.end());
    }

    private static void promise12Feed() {
        TypeForecast x = new TypeForecast();
        CHECK.no("feed(BIG + 1)", x.feed(BIG + 1));
        CHECK.no("feed(-BIG - 1)", x.feed(-BIG - 1));
        CHECK.no("feed(min)", x.feed(Integer.MIN_VALUE));
        CHECK.yes("feed(BIG)", x.feed(BIG));
        CHECK.yes("feed(-BIG)", x.feed(-BIG));
        for (int i = 2; i < 8; i++) {
            CHECK.yes("feed", x.feed(i));
        }
        CHECK.no("ninth feed", x.feed(8));
        x.leaf(4, 0);
        for (int v = 0; v < 5; v++) {
            x.assign(v, 0);
        }
        x.run(10);
        int[] due = {BIG, -BIG, 2, 3, 4};
        for (int v = 0; v < 5; v++) {
            CHECK.same("input " + v, x.number(v), due[v]);
        }
        for (int v = 0; v < 5; v++) {
            x.assign(v, 0);
        }
        x.run(10);
        int[] later = {5, 6, 7, 0, 0};
        for (int v = 0; v < 5; v++) {
            CHECK.same("input " + (v + 5), x.number(v), later[v]);
        }
    }

    private static void refusedCallsChangeNothing() {
        TypeForecast x = new TypeForecast();
        x.leaf(0, 3);
        x.assign(0, 0);
        x.look();
        x.run(5);
        x.branch(0);
        x.leaf(9, 0);
        x.apply(9, 0, 0);
        x.assign(9, 0);
        x.raise(9);
        x.leave(true);
        x.branch(9);
        x.loop(9);
        x.attempt(9);
        CHECK.same("look while open", x.look(), -1);
        CHECK.same("run while open", x.run(0), -1);
        CHECK.same("seen is as before", x.seen(-1, 0), 1);
        CHECK.same("number is as before", x.number(0), 3);
        CHECK.same("next expression", x.leaf(2, 0), 1);
        CHECK.same("next statement", x.assign(1, 1), 2);
        CHECK.yes("otherwise", x.otherwise());
        CHECK.no("otherwise again", x.otherwise());
        x.assign(2, 1);
        CHECK.yes("end", x.end());
        CHECK.same("run(1001)", x.run(1001), -1);
        CHECK.same("run(-1)", x.run(-1), -1);
        CHECK.same("number is as before still", x.number(0), 3);
        CHECK.same("run", x.run(5), 0);
        CHECK.same("first block", x.type(1), 4);
        CHECK.same("second block", x.type(2), 8);
    }

    private static void objectsAreApart() {
        TypeForecast x = new TypeForecast();
        TypeForecast y = new TypeForecast();
        x.leaf(0, 3);
        x.assign(0, 0);
        x.feed(4);
        x.look();
        x.run(3);
        CHECK.same("another object's expressions", y.leaf(4, 0), 0);
        CHECK.same("another object's statements", y.assign(1, 0), 0);
        CHECK.same("another object's run", y.run(3), 0);
        CHECK.same("another object's inputs", y.number(1), 0);
        CHECK.same("another object's look", y.seen(-1, 0), 0);
    }
}
