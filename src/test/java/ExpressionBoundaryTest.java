/** Promises 1 to 3, and the terms they lean on: each sentence that names a boundary case. */
public final class ExpressionBoundaryTest {
    private static final Check CHECK = new Check();
    private static final int BIG = Bench.BIG;
    private static final int MIN = Bench.MIN;
    private static final int MAX = Bench.MAX;

    public static void main(String[] args) {
        newObjectHasAnEmptyProgram();
        newObjectHasNoExpressions();
        newObjectHasNoInputs();
        newObjectWasNotLookedThrough();
        newObjectWasNotRun();
        lastCallOfAnObject();
        fiveVariables();
        expressionNumbers();
        leafBeyondSixty();
        leafOfNoKind();
        leafNumberBounds();
        leafTextBounds();
        leafVariableBounds();
        leafWhoseNumberIsNotLookedAt();
        applyBeyondSixty();
        applyOfNoOperation();
        applyOfPartsThatAreNot();
        applyOfEarlierExpressionsOnly();
        applyOfOnePart();
        weightOfALeaf();
        applyTooHeavy();
        heaviestAndDeepest();
        partThatStandsInItTwice();
        CHECK.finish();
    }

    private static void newObjectHasAnEmptyProgram() {
        CHECK.sentence("promise 1", "An empty program");
        CHECK.same("seen(0, 0)", new TypeForecast().seen(0, 0), -1);
        CHECK.same("look()", new TypeForecast().look(), 0);
        CHECK.same("run(0)", new TypeForecast().run(0), 0);
        CHECK.no("end()", new TypeForecast().end());
        CHECK.no("otherwise()", new TypeForecast().otherwise());
        CHECK.same("first statement", new TypeForecast().raise(4), 0);
        CHECK.same("first TRY", new TypeForecast().attempt(0), 0);
    }

    private static void newObjectHasNoExpressions() {
        CHECK.sentence("promise 1", "no expressions");
        CHECK.same("assign(0, 0)", new TypeForecast().assign(0, 0), -1);
        CHECK.same("branch(0)", new TypeForecast().branch(0), -1);
        CHECK.same("loop(0)", new TypeForecast().loop(0), -1);
        CHECK.same("apply(6, 0, 0)", new TypeForecast().apply(6, 0, 0), -1);
        CHECK.same("apply(0, 0, 0)", new TypeForecast().apply(0, 0, 0), -1);
        CHECK.same("leaf(0, 0)", new TypeForecast().leaf(0, 0), 0);
    }

    private static void newObjectHasNoInputs() {
        CHECK.sentence("promise 1", "no inputs");
        Bench b = new Bench();
        b.x.assign(0, b.input());
        CHECK.same("run(1)", b.x.run(1), 0);
        CHECK.same("number(0)", b.x.number(0), 0);
        for (int i = 0; i < 8; i++) {
            CHECK.yes("feed " + i, b.x.feed(50 + i));
        }
        b.x.run(1);
        CHECK.same("the first one that was fed", b.x.number(0), 50);
    }

    private static void newObjectWasNotLookedThrough() {
        CHECK.sentence("promise 1", "no looking through");
        TypeForecast x = new TypeForecast();
        for (int v = 0; v < 5; v++) {
            CHECK.same("seen(-1, " + v + ")", x.seen(-1, v), 0);
            for (int which = 0; which < 4; which++) {
                CHECK.same("bound(-1, " + v + ", " + which + ")", x.bound(-1, v, which), 99);
            }
        }
        for (int kind = 1; kind <= 4; kind++) {
            CHECK.no("alarm(" + kind + ", 0)", x.alarm(kind, 0));
        }
    }

    private static void newObjectWasNotRun() {
        CHECK.sentence("promise 1", "no run so far");
        TypeForecast x = new TypeForecast();
        CHECK.same("place()", x.place(), -1);
        for (int v = 0; v < 5; v++) {
            CHECK.same("type(" + v + ")", x.type(v), 8);
            CHECK.same("number(" + v + ")", x.number(v), 0);
        }
    }

    private static void lastCallOfAnObject() {
        CHECK.sentence("What it is", "An object is used for at most 512 calls");
        TypeForecast x = new TypeForecast();
        x.leaf(0, 7);
        x.assign(2, 0);
        for (int call = 2; call < 510; call++) {
            x.leaf(-1, 0);
        }
        CHECK.same("the 511th call, run(1)", x.run(1), 0);
        CHECK.same("the 512th call, number(2)", x.number(2), 7);
    }

    private static void fiveVariables() {
        CHECK.sentence("terms of promises 2, 4, 15, 16, 19, 20", "There are five VARIABLES 0 .. 4");
        Bench b = new Bench();
        int seven = b.number(7);
        for (int v = 0; v < 5; v++) {
            CHECK.same("assign to " + v, b.x.assign(v, seven), v);
            CHECK.same("leaf of " + v, b.variable(v), 1 + v);
        }
        b.x.look();
        b.x.run(5);
        for (int v = 0; v < 5; v++) {
            CHECK.same("seen of " + v, b.x.seen(-1, v), 1);
            CHECK.same("bound of " + v, b.x.bound(-1, v, 0), 7);
            CHECK.same("type of " + v, b.x.type(v), 1);
            CHECK.same("number of " + v, b.x.number(v), 7);
        }
        for (int v : new int[] {-1, 5}) {
            CHECK.same("assign to " + v, b.x.assign(v, seven), -1);
            CHECK.same("leaf of " + v, b.variable(v), -1);
            CHECK.same("seen of " + v, b.x.seen(-1, v), -1);
            CHECK.same("bound of " + v, b.x.bound(-1, v, 0), 99);
            CHECK.same("type of " + v, b.x.type(v), -1);
            CHECK.same("number of " + v, b.x.number(v), 0);
        }
    }

    private static void expressionNumbers() {
        CHECK.sentence("terms of promises 2 and 3",
                "EXPRESSIONS have numbers 0, 1, ..; there are at most 60.");
        TypeForecast x = new TypeForecast();
        for (int i = 0; i < 60; i += 2) {
            CHECK.same("leaf", x.leaf(0, i), i);
            CHECK.same("operation", x.apply(6, i, 0), i + 1);
        }
        CHECK.same("a leaf as the 61st", x.leaf(0, 60), -1);
        CHECK.same("an operation as the 61st", x.apply(6, 0, 0), -1);
        CHECK.same("number 58 can be used", x.assign(0, 58), 0);
        CHECK.same("number 59 can be used", x.assign(1, 59), 1);
        CHECK.same("number 60 can't", x.assign(2, 60), -1);
        x.run(2);
        CHECK.same("the value of 58", x.number(0), 58);
        CHECK.same("the value of 59", x.type(1), 1);
    }

    private static void leafBeyondSixty() {
        CHECK.sentence("promise 2", "refused with -1 when there are 60 expressions");
        for (int kind = 0; kind < 5; kind++) {
            TypeForecast x = new TypeForecast();
            for (int i = 0; i < 59; i++) {
                x.leaf(2, 0);
            }
            CHECK.same("the 60th, of kind " + kind, x.leaf(kind, 1), 59);
            for (int other = 0; other < 5; other++) {
                CHECK.same("the 61st, of kind " + other, x.leaf(other, 1), -1);
            }
        }
    }

    private static void leafOfNoKind() {
        CHECK.sentence("promise 2", "kind is not 0 .. 4");
        TypeForecast x = new TypeForecast();
        for (int kind : new int[] {-1, 5, -2, 6, MIN, MAX}) {
            CHECK.same("kind " + kind, x.leaf(kind, 0), -1);
        }
        for (int kind = 0; kind < 5; kind++) {
            CHECK.same("kind " + kind, x.leaf(kind, 0), kind);
        }
    }

    private static int leafThenRun(int kind, int n) {
        TypeForecast x = new TypeForecast();
        CHECK.same("leaf(" + kind + ", " + n + ")", x.leaf(kind, n), 0);
        x.assign(0, 0);
        x.run(1);
        CHECK.same("type of leaf(" + kind + ", " + n + ")", x.type(0), kind == 0 ? 1 : 2);
        return x.number(0);
    }

    private static void leafNumberBounds() {
        CHECK.sentence("promise 2", "n is not -1000000000 .. 1000000000 (kind 0)");
        for (int n : new int[] {BIG, BIG - 1, 1, 0, -1, 1 - BIG, -BIG}) {
            CHECK.same("the number " + n, leafThenRun(0, n), n);
        }
        for (int n : new int[] {BIG + 1, -BIG - 1, MAX, MIN}) {
            CHECK.same("the number " + n, new TypeForecast().leaf(0, n), -1);
        }
    }

    private static void leafTextBounds() {
        CHECK.sentence("promise 2", "not 0 .. 1000000000 (kind 1)");
        for (int n : new int[] {BIG, BIG - 1, 1, 0}) {
            CHECK.same("a text of length " + n, leafThenRun(1, n), n);
        }
        for (int n : new int[] {BIG + 1, -1, -BIG, MAX, MIN}) {
            CHECK.same("a text of length " + n, new TypeForecast().leaf(1, n), -1);
        }
    }

    private static void leafVariableBounds() {
        CHECK.sentence("promise 2", "not 0 .. 4 (kind 3)");
        for (int v = 0; v < 5; v++) {
            Bench b = new Bench();
            CHECK.same("variable " + v, b.x.leaf(3, v), 0);
            b.x.assign(v, b.number(30 + v));
            b.x.assign((v + 1) % 5, 0);
            b.x.run(2);
            CHECK.same("the value of variable " + v, b.x.number((v + 1) % 5), 30 + v);
        }
        for (int v : new int[] {-1, 5, -BIG, BIG, MIN, MAX}) {
            CHECK.same("variable " + v, new TypeForecast().leaf(3, v), -1);
        }
    }

    private static void leafWhoseNumberIsNotLookedAt() {
        CHECK.sentence("promise 2", "for 2 and 4, n is not looked at");
        for (int n : new int[] {0, -1, 5, BIG + 1, -BIG - 1, MIN, MAX}) {
            TypeForecast x = new TypeForecast();
            CHECK.same("leaf(2, " + n + ")", x.leaf(2, n), 0);
            CHECK.same("leaf(4, " + n + ")", x.leaf(4, n), 1);
            x.feed(-6);
            x.assign(0, 0);
            x.assign(1, 1);
            x.run(2);
            CHECK.same("type of leaf(2, " + n + ")", x.type(0), 4);
            CHECK.same("number of leaf(2, " + n + ")", x.number(0), 0);
            CHECK.same("number of leaf(4, " + n + ")", x.number(1), -6);
        }
    }

    private static void applyBeyondSixty() {
        CHECK.sentence("promise 3", "refused with -1 when there are 60 expressions");
        for (int operation = 0; operation < 8; operation++) {
            TypeForecast x = new TypeForecast();
            for (int i = 0; i < 59; i++) {
                x.leaf(0, i);
            }
            CHECK.same("the 60th, operation " + operation, x.apply(operation, 0, 1), 59);
            for (int other = 0; other < 8; other++) {
                CHECK.same("the 61st, operation " + other, x.apply(other, 0, 1), -1);
            }
        }
    }

    private static void applyOfNoOperation() {
        CHECK.sentence("promise 3", "there is no such operation");
        TypeForecast x = new TypeForecast();
        x.leaf(0, 1);
        for (int operation : new int[] {-1, 8, -2, 9, MIN, MAX}) {
            CHECK.same("operation " + operation, x.apply(operation, 0, 0), -1);
        }
        for (int operation = 0; operation < 8; operation++) {
            CHECK.same("operation " + operation, x.apply(operation, 0, 0), 1 + operation);
        }
    }

    private static void applyOfPartsThatAreNot() {
        CHECK.sentence("promise 3", "a part is not the number of an expression");
        TypeForecast x = new TypeForecast();
        x.leaf(0, 1);
        x.leaf(0, 2);
        int made = 2;
        for (int operation = 0; operation < 8; operation++) {
            for (int part : new int[] {-1, made, made + 1, 59, 60, 61, MIN, MAX}) {
                CHECK.same(operation + " of " + part, x.apply(operation, part, 0), -1);
                if (operation < 6) {
                    CHECK.same(operation + " of 0 and " + part, x.apply(operation, 0, part), -1);
                }
            }
            CHECK.same("the earliest and the latest one", x.apply(operation, 0, 1), made);
            made++;
        }
        CHECK.same("the latest one as a part", x.apply(5, made - 1, made - 1), made);
    }

    private static void applyOfEarlierExpressionsOnly() {
        CHECK.sentence("terms of promise 3",
                "An OPERATION has one or two parts, which are earlier expressions.");
        TypeForecast x = new TypeForecast();
        CHECK.same("NOT of itself", x.apply(6, 0, 0), -1);
        x.leaf(0, 4);
        CHECK.same("the left part is itself", x.apply(0, 1, 0), -1);
        CHECK.same("the right part is itself", x.apply(0, 0, 1), -1);
        CHECK.same("both parts are earlier", x.apply(0, 0, 0), 1);
        x.assign(0, 1);
        x.run(1);
        CHECK.same("its value", x.number(0), 8);
    }

    private static void applyOfOnePart() {
        CHECK.sentence("promise 3", "for 6 and 7 the part is a, and b is not looked at");
        for (int b : new int[] {-1, 0, 1, 2, 3, 59, 60, MIN, MAX}) {
            TypeForecast x = new TypeForecast();
            x.leaf(1, 0);
            x.leaf(1, 3);
            CHECK.same("NOT with b = " + b, x.apply(6, 0, b), 2);
            CHECK.same("LENGTH with b = " + b, x.apply(7, 1, b), 3);
            x.assign(0, 2);
            x.assign(1, 3);
            CHECK.same("run", x.run(2), 0);
            CHECK.same("the value of NOT", x.number(0), 1);
            CHECK.same("the value of LENGTH", x.number(1), 3);
        }
        Bench h = new Bench();
        int light = h.text(3);
        int heavy = h.heavy(15);
        CHECK.yes("NOT, b weighs 15", h.x.apply(6, light, heavy) > heavy);
        CHECK.yes("LENGTH, b weighs 15", h.x.apply(7, light, heavy) > heavy);
    }

    private static void weightOfALeaf() {
        CHECK.sentence("terms of promise 3",
                "The WEIGHT of a leaf is 1, that of an operation 1 more than the"
                        + " weights of its parts together");
        for (int kind = 0; kind < 5; kind++) {
            for (int n : new int[] {0, 4}) {
                Bench b = new Bench();
                int leaf = b.x.leaf(kind, n);
                int thirteen = b.heavy(13);
                int fourteen = b.heavy(14);
                CHECK.same("13 and a leaf", b.add(thirteen, leaf), fourteen + 1);
                CHECK.same("14 and a leaf", b.add(fourteen, leaf), -1);
                CHECK.same("a leaf and 14", b.add(leaf, fourteen), -1);
                CHECK.same("NOT of 14", b.not(fourteen), fourteen + 2);
            }
        }
    }

    private static void applyTooHeavy() {
        CHECK.sentence("promise 3", "it would weigh more than 15");
        for (int weight = 1; weight <= 15; weight++) {
            Bench b = new Bench();
            int leaf = b.number(1);
            int heavy = b.heavy(weight);
            CHECK.yes("one of weight " + weight, heavy >= 1);
            boolean oneMore = weight + 1 <= 15;
            boolean twoMore = weight + 2 <= 15;
            CHECK.same("NOT of " + weight, b.not(heavy) == -1 ? 0 : 1, oneMore ? 1 : 0);
            CHECK.same("LENGTH of " + weight, b.length(heavy) == -1 ? 0 : 1, oneMore ? 1 : 0);
            for (int operation = 0; operation < 6; operation++) {
                String name = operation + " of " + weight;
                int left = b.x.apply(operation, heavy, leaf);
                int right = b.x.apply(operation, leaf, heavy);
                CHECK.same(name + " and 1", left == -1 ? 0 : 1, twoMore ? 1 : 0);
                CHECK.same(name + " behind 1", right == -1 ? 0 : 1, twoMore ? 1 : 0);
            }
        }
        for (int left = 1; left <= 14; left++) {
            Bench b = new Bench();
            int a = b.heavy(left);
            CHECK.yes(left + " and " + (14 - left), left == 14 || b.add(a, b.heavy(14 - left)) > a);
            CHECK.same(left + " and " + (15 - left), b.add(a, b.heavy(15 - left)), -1);
        }
    }

    private static void heaviestAndDeepest() {
        CHECK.sentence("terms of promise 3", "no expression weighs more than 15");
        for (int leaf = 0; leaf < 2; leaf++) {
            Bench b = new Bench();
            int e = b.number(leaf);
            for (int weight = 2; weight <= 15; weight++) {
                e = b.not(e);
                CHECK.same("NOT of weight " + weight, e, weight - 1);
            }
            CHECK.same("NOT of weight 16", b.not(e), -1);
            b.x.assign(0, e);
            CHECK.same("look()", b.x.look(), 0);
            CHECK.numbers("the deepest one, looked through", b.x, -1, 0, leaf, leaf);
            CHECK.same("run(1)", b.x.run(1), 0);
            CHECK.same("the deepest one, run", b.x.number(0), leaf);
        }
        Bench c = new Bench();
        int one = c.number(1);
        int left = one;
        int right = one;
        for (int i = 0; i < 7; i++) {
            left = c.subtract(left, one);
            right = c.subtract(one, right);
        }
        c.x.assign(0, left);
        c.x.assign(1, right);
        CHECK.same("look()", c.x.look(), 0);
        CHECK.numbers("deep on the left, looked through", c.x, -1, 0, -6, -6);
        CHECK.numbers("deep on the right, looked through", c.x, -1, 1, 0, 0);
        CHECK.same("run(2)", c.x.run(2), 0);
        CHECK.same("deep on the left, run", c.x.number(0), -6);
        CHECK.same("deep on the right, run", c.x.number(1), 0);
    }

    private static void partThatStandsInItTwice() {
        CHECK.sentence("terms of promise 3", "a part that stands in it twice counts twice");
        for (int weight = 1; weight <= 15; weight++) {
            for (int operation = 0; operation < 6; operation++) {
                Bench b = new Bench();
                int part = b.heavy(weight);
                int twice = b.x.apply(operation, part, part);
                CHECK.same(operation + " of twice " + weight, twice, weight <= 7 ? part + 1 : -1);
            }
        }
        TypeForecast x = new TypeForecast();
        x.leaf(0, 1);
        CHECK.same("weight 3", x.apply(0, 0, 0), 1);
        CHECK.same("weight 7", x.apply(0, 1, 1), 2);
        CHECK.same("weight 15", x.apply(0, 2, 2), 3);
        CHECK.same("weight 16", x.apply(6, 3, 0), -1);
        CHECK.same("weight 17", x.apply(0, 0, 3), -1);
    }
}
