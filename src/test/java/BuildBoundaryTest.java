/** Promises 1 to 12, and the limits they lean on: each sentence that names a boundary case. */
public final class BuildBoundaryTest {
    private static final Check CHECK = new Check();
    private static final int BIG = Bench.BIG;
    private static final int MIN = Bench.MIN;
    private static final int MAX = Bench.MAX;

    public static void main(String[] args) {
        newObjectHasAnEmptyProgram();
        newObjectHasNoExpressions();
        newObjectHasNoInputs();
        newObjectWasNotLookedThrough();
        newObjectWasNotRun();
        lastCallOfAnObject();
        fiveVariables();
        expressionNumbers();
        leafBeyondSixty();
        leafOfNoKind();
        leafNumberBounds();
        leafTextBounds();
        leafVariableBounds();
        leafWhoseNumberIsNotLookedAt();
        applyBeyondSixty();
        applyOfNoOperation();
        applyOfPartsThatAreNot();
        applyOfEarlierExpressionsOnly();
        applyOfOnePart();
        applyTooHeavy();
        partThatStandsInItTwice();
        statementNumbers();
        assignBeyondTwentyFour();
        assignToNoVariable();
        assignOfNoExpression();
        raiseBeyondTwentyFour();
        raiseOfNoKind();
        leaveBeyondTwentyFour();
        leaveWithoutLoop();
        leaveAcrossBlocks();
        openersBeyondTwentyFour();
        openersBeyondFive();
        openStatementsInSecondBlocks();
        openersOfNoExpression();
        attemptOfNoKind();
        otherwiseOfNothing();
        otherwiseOfALoop();
        otherwiseOfASecondBlock();
        otherwiseOfAFirstBlock();
        endOfNothing();
        endOfTheInnermost();
        endWithoutOtherwise();
        feedBeyondEight();
        feedBounds();
        CHECK.finish();
    }

    private static void newObjectHasAnEmptyProgram() {
        CHECK.sentence("promise 1", "An empty program");
        CHECK.same("seen(0, 0)", new TypeForecast().seen(0, 0), -1);
        CHECK.same("look()", new TypeForecast().look(), 0);
        CHECK.same("run(0)", new TypeForecast().run(0), 0);
        CHECK.no("end()", new TypeForecast().end());
        CHECK.no("otherwise()", new TypeForecast().otherwise());
        CHECK.same("first statement", new TypeForecast().raise(4), 0);
        CHECK.same("first TRY", new TypeForecast().attempt(0), 0);
    }

    private static void newObjectHasNoExpressions() {
        CHECK.sentence("promise 1", "no expressions");
        CHECK.same("assign(0, 0)", new TypeForecast().assign(0, 0), -1);
        CHECK.same("branch(0)", new TypeForecast().branch(0), -1);
        CHECK.same("loop(0)", new TypeForecast().loop(0), -1);
        CHECK.same("apply(6, 0, 0)", new TypeForecast().apply(6, 0, 0), -1);
        CHECK.same("apply(0, 0, 0)", new TypeForecast().apply(0, 0, 0), -1);
        CHECK.same("leaf(0, 0)", new TypeForecast().leaf(0, 0), 0);
    }

    private static void newObjectHasNoInputs() {
        CHECK.sentence("promise 1", "no inputs");
        Bench b = new Bench();
        b.x.assign(0, b.input());
        CHECK.same("run(1)", b.x.run(1), 0);
        CHECK.same("number(0)", b.x.number(0), 0);
        for (int i = 0; i < 8; i++) {
            CHECK.yes("feed " + i, b.x.feed(50 + i));
        }
        b.x.run(1);
        CHECK.same("the first one that was fed", b.x.number(0), 50);
    }

    private static void newObjectWasNotLookedThrough() {
        CHECK.sentence("promise 1", "no looking through");
        TypeForecast x = new TypeForecast();
        for (int v = 0; v < 5; v++) {
            CHECK.same("seen(-1, " + v + ")", x.seen(-1, v), 0);
            for (int which = 0; which < 4; which++) {
                CHECK.same("bound(-1, " + v + ", " + which + ")", x.bound(-1, v, which), 99);
            }
        }
        for (int kind = 1; kind <= 4; kind++) {
            CHECK.no("alarm(" + kind + ", 0)", x.alarm(kind, 0));
        }
    }

    private static void newObjectWasNotRun() {
        CHECK.sentence("promise 1", "no run so far");
        TypeForecast x = new TypeForecast();
        CHECK.same("place()", x.place(), -1);
        for (int v = 0; v < 5; v++) {
            CHECK.same("type(" + v + ")", x.type(v), 8);
            CHECK.same("number(" + v + ")", x.number(v), 0);
        }
    }

    private static void lastCallOfAnObject() {
        CHECK.sentence("What it is", "An object is used for at most 512 calls");
        TypeForecast x = new TypeForecast();
        x.leaf(0, 7);
        x.assign(2, 0);
        for (int call = 2; call < 510; call++) {
            x.leaf(-1, 0);
        }
        CHECK.same("the 511th call, run(1)", x.run(1), 0);
        CHECK.same("the 512th call, number(2)", x.number(2), 7);
    }

    private static void fiveVariables() {
        CHECK.sentence("terms of promises 2, 4, 15, 16, 19, 20", "There are five VARIABLES 0 .. 4");
        Bench b = new Bench();
        int seven = b.number(7);
        for (int v = 0; v < 5; v++) {
            CHECK.same("assign to " + v, b.x.assign(v, seven), v);
            CHECK.same("leaf of " + v, b.variable(v), 1 + v);
        }
        b.x.look();
        b.x.run(5);
        for (int v = 0; v < 5; v++) {
            CHECK.same("seen of " + v, b.x.seen(-1, v), 1);
            CHECK.same("bound of " + v, b.x.bound(-1, v, 0), 7);
            CHECK.same("type of " + v, b.x.type(v), 1);
            CHECK.same("number of " + v, b.x.number(v), 7);
        }
        for (int v : new int[] {-1, 5}) {
            CHECK.same("assign to " + v, b.x.assign(v, seven), -1);
            CHECK.same("leaf of " + v, b.variable(v), -1);
            CHECK.same("seen of " + v, b.x.seen(-1, v), -1);
            CHECK.same("bound of " + v, b.x.bound(-1, v, 0), 99);
            CHECK.same("type of " + v, b.x.type(v), -1);
            CHECK.same("number of " + v, b.x.number(v), 0);
        }
    }

    private static void expressionNumbers() {
        CHECK.sentence("terms of promises 2 and 3",
                "EXPRESSIONS have numbers 0, 1, ..; there are at most 60.");
        TypeForecast x = new TypeForecast();
        for (int i = 0; i < 60; i += 2) {
            CHECK.same("leaf", x.leaf(0, i), i);
            CHECK.same("operation", x.apply(6, i, 0), i + 1);
        }
        CHECK.same("a leaf as the 61st", x.leaf(0, 60), -1);
        CHECK.same("an operation as the 61st", x.apply(6, 0, 0), -1);
        CHECK.same("number 58 can be used", x.assign(0, 58), 0);
        CHECK.same("number 59 can be used", x.assign(1, 59), 1);
        CHECK.same("number 60 can't", x.assign(2, 60), -1);
        x.run(2);
        CHECK.same("the value of 58", x.number(0), 58);
        CHECK.same("the value of 59", x.type(1), 1);
    }

    private static void leafBeyondSixty() {
        CHECK.sentence("promise 2", "refused with -1 when there are 60 expressions");
        for (int kind = 0; kind < 5; kind++) {
            TypeForecast x = new TypeForecast();
            for (int i = 0; i < 59; i++) {
                x.leaf(2, 0);
            }
            CHECK.same("the 60th, of kind " + kind, x.leaf(kind, 1), 59);
            for (int other = 0; other < 5; other++) {
                CHECK.same("the 61st, of kind " + other, x.leaf(other, 1), -1);
            }
        }
    }

    private static void leafOfNoKind() {
        CHECK.sentence("promise 2", "kind is not 0 .. 4");
        TypeForecast x = new TypeForecast();
        for (int kind : new int[] {-1, 5, -2, 6, MIN, MAX}) {
            CHECK.same("kind " + kind, x.leaf(kind, 0), -1);
        }
        for (int kind = 0; kind < 5; kind++) {
            CHECK.same("kind " + kind, x.leaf(kind, 0), kind);
        }
    }

    private static int leafThenRun(int kind, int n) {
        TypeForecast x = new TypeForecast();
        CHECK.same("leaf(" + kind + ", " + n + ")", x.leaf(kind, n), 0);
        x.assign(0, 0);
        x.run(1);
        CHECK.same("type of leaf(" + kind + ", " + n + ")", x.type(0), kind == 0 ? 1 : 2);
        return x.number(0);
    }

    private static void leafNumberBounds() {
        CHECK.sentence("promise 2", "n is not -1000000000 .. 1000000000 (kind 0)");
        for (int n : new int[] {BIG, BIG - 1, 1, 0, -1, 1 - BIG, -BIG}) {
            CHECK.same("the number " + n, leafThenRun(0, n), n);
        }
        for (int n : new int[] {BIG + 1, -BIG - 1, MAX, MIN}) {
            CHECK.same("the number " + n, new TypeForecast().leaf(0, n), -1);
        }
    }

    private static void leafTextBounds() {
        CHECK.sentence("promise 2", "not 0 .. 1000000000 (kind 1)");
        for (int n : new int[] {BIG, BIG - 1, 1, 0}) {
            CHECK.same("a text of length " + n, leafThenRun(1, n), n);
        }
        for (int n : new int[] {BIG + 1, -1, -BIG, MAX, MIN}) {
            CHECK.same("a text of length " + n, new TypeForecast().leaf(1, n), -1);
        }
    }

    private static void leafVariableBounds() {
        CHECK.sentence("promise 2", "not 0 .. 4 (kind 3)");
        for (int v = 0; v < 5; v++) {
            Bench b = new Bench();
            CHECK.same("variable " + v, b.x.leaf(3, v), 0);
            b.x.assign(v, b.number(30 + v));
            b.x.assign((v + 1) % 5, 0);
            b.x.run(2);
            CHECK.same("the value of variable " + v, b.x.number((v + 1) % 5), 30 + v);
        }
        for (int v : new int[] {-1, 5, -BIG, BIG, MIN, MAX}) {
            CHECK.same("variable " + v, new TypeForecast().leaf(3, v), -1);
        }
    }

    private static void leafWhoseNumberIsNotLookedAt() {
        CHECK.sentence("promise 2", "for 2 and 4, n is not looked at");
        for (int n : new int[] {0, -1, 5, BIG + 1, -BIG - 1, MIN, MAX}) {
            TypeForecast x = new TypeForecast();
            CHECK.same("leaf(2, " + n + ")", x.leaf(2, n), 0);
            CHECK.same("leaf(4, " + n + ")", x.leaf(4, n), 1);
            x.feed(-6);
            x.assign(0, 0);
            x.assign(1, 1);
            x.run(2);
            CHECK.same("type of leaf(2, " + n + ")", x.type(0), 4);
            CHECK.same("number of leaf(2, " + n + ")", x.number(0), 0);
            CHECK.same("number of leaf(4, " + n + ")", x.number(1), -6);
        }
    }

    private static void applyBeyondSixty() {
        CHECK.sentence("promise 3", "refused with -1 when there are 60 expressions");
        for (int operation = 0; operation < 8; operation++) {
            TypeForecast x = new TypeForecast();
            for (int i = 0; i < 59; i++) {
                x.leaf(0, i);
            }
            CHECK.same("the 60th, operation " + operation, x.apply(operation, 0, 1), 59);
            for (int other = 0; other < 8; other++) {
                CHECK.same("the 61st, operation " + other, x.apply(other, 0, 1), -1);
            }
        }
    }

    private static void applyOfNoOperation() {
        CHECK.sentence("promise 3", "there is no such operation");
        TypeForecast x = new TypeForecast();
        x.leaf(0, 1);
        for (int operation : new int[] {-1, 8, -2, 9, MIN, MAX}) {
            CHECK.same("operation " + operation, x.apply(operation, 0, 0), -1);
        }
        for (int operation = 0; operation < 8; operation++) {
            CHECK.same("operation " + operation, x.apply(operation, 0, 0), 1 + operation);
        }
    }

    private static void applyOfPartsThatAreNot() {
        CHECK.sentence("promise 3", "a part is not the number of an expression");
        TypeForecast x = new TypeForecast();
        x.leaf(0, 1);
        x.leaf(0, 2);
        int made = 2;
        for (int operation = 0; operation < 8; operation++) {
            for (int part : new int[] {-1, made, made + 1, 59, 60, 61, MIN, MAX}) {
                CHECK.same(operation + " of " + part, x.apply(operation, part, 0), -1);
                if (operation < 6) {
                    CHECK.same(operation + " of 0 and " + part, x.apply(operation, 0, part), -1);
                }
            }
            CHECK.same("the earliest and the latest one", x.apply(operation, 0, 1), made);
            made++;
        }
        CHECK.same("the latest one as a part", x.apply(5, made - 1, made - 1), made);
    }

    private static void applyOfEarlierExpressionsOnly() {
        CHECK.sentence("terms of promise 3",
                "An OPERATION has one or two parts, which are earlier expressions.");
        TypeForecast x = new TypeForecast();
        CHECK.same("NOT of itself", x.apply(6, 0, 0), -1);
        x.leaf(0, 4);
        CHECK.same("the left part is itself", x.apply(0, 1, 0), -1);
        CHECK.same("the right part is itself", x.apply(0, 0, 1), -1);
        CHECK.same("both parts are earlier", x.apply(0, 0, 0), 1);
        x.assign(0, 1);
        x.run(1);
        CHECK.same("its value", x.number(0), 8);
    }

    private static void applyOfOnePart() {
        CHECK.sentence("promise 3", "for 6 and 7 the part is a, and b is not looked at");
        for (int b : new int[] {-1, 0, 1, 2, 3, 59, 60, MIN, MAX}) {
            TypeForecast x = new TypeForecast();
            x.leaf(1, 0);
            x.leaf(1, 3);
            CHECK.same("NOT with b = " + b, x.apply(6, 0, b), 2);
            CHECK.same("LENGTH with b = " + b, x.apply(7, 1, b), 3);
            x.assign(0, 2);
            x.assign(1, 3);
            CHECK.same("run", x.run(2), 0);
            CHECK.same("the value of NOT", x.number(0), 1);
            CHECK.same("the value of LENGTH", x.number(1), 3);
        }
        Bench h = new Bench();
        int light = h.text(3);
        int heavy = h.heavy(15);
        CHECK.yes("NOT, b weighs 15", h.x.apply(6, light, heavy) > heavy);
        CHECK.yes("LENGTH, b weighs 15", h.x.apply(7, light, heavy) > heavy);
    }

    private static void applyTooHeavy() {
        CHECK.sentence("promise 3", "it would weigh more than 15");
        for (int weight = 1; weight <= 15; weight++) {
            Bench b = new Bench();
            int leaf = b.number(1);
            int heavy = b.heavy(weight);
            CHECK.yes("one of weight " + weight, heavy >= 1);
            boolean oneMore = weight + 1 <= 15;
            boolean twoMore = weight + 2 <= 15;
            CHECK.same("NOT of " + weight, b.not(heavy) == -1 ? 0 : 1, oneMore ? 1 : 0);
            CHECK.same("LENGTH of " + weight, b.length(heavy) == -1 ? 0 : 1, oneMore ? 1 : 0);
            for (int operation = 0; operation < 6; operation++) {
                String name = operation + " of " + weight;
                int left = b.x.apply(operation, heavy, leaf);
                int right = b.x.apply(operation, leaf, heavy);
                CHECK.same(name + " and 1", left == -1 ? 0 : 1, twoMore ? 1 : 0);
                CHECK.same(name + " behind 1", right == -1 ? 0 : 1, twoMore ? 1 : 0);
            }
        }
        for (int left = 1; left <= 14; left++) {
            Bench b = new Bench();
            int a = b.heavy(left);
            CHECK.yes(left + " and " + (14 - left), left == 14 || b.add(a, b.heavy(14 - left)) > a);
            CHECK.same(left + " and " + (15 - left), b.add(a, b.heavy(15 - left)), -1);
        }
    }

    private static void partThatStandsInItTwice() {
        CHECK.sentence("terms of promise 3", "a part that stands in it twice counts twice");
        for (int weight = 1; weight <= 15; weight++) {
            for (int operation = 0; operation < 6; operation++) {
                Bench b = new Bench();
                int part = b.heavy(weight);
                int twice = b.x.apply(operation, part, part);
                CHECK.same(operation + " of twice " + weight, twice, weight <= 7 ? part + 1 : -1);
            }
        }
        TypeForecast x = new TypeForecast();
        x.leaf(0, 1);
        CHECK.same("weight 3", x.apply(0, 0, 0), 1);
        CHECK.same("weight 7", x.apply(0, 1, 1), 2);
        CHECK.same("weight 15", x.apply(0, 2, 2), 3);
        CHECK.same("weight 16", x.apply(6, 3, 0), -1);
        CHECK.same("weight 17", x.apply(0, 0, 3), -1);
    }

    /** A program of so many statements, all of them closed, and one expression. */
    private static TypeForecast longProgram(int statements) {
        TypeForecast x = new TypeForecast();
        x.leaf(0, 1);
        for (int s = 0; s < statements; s++) {
            x.assign(0, 0);
        }
        return x;
    }

    /** The same, but the first statement is a loop, and the others stand in it. */
    private static TypeForecast longLoop(int statements) {
        TypeForecast x = new TypeForecast();
        x.leaf(0, 1);
        x.loop(0);
        for (int s = 1; s < statements; s++) {
            x.assign(0, 0);
        }
        return x;
    }

    private static void statementNumbers() {
        CHECK.sentence("terms of promises 4 to 9", "STATEMENTS have numbers 0, 1, .. in the order"
                + " in which they were added; there are at most 24.");
        TypeForecast x = new TypeForecast();
        x.leaf(0, 1);
        for (int s = 0; s < 24; s += 6) {
            CHECK.same("loop", x.loop(0), s);
            CHECK.same("leave", x.leave(false), s + 1);
            CHECK.same("branch", x.branch(0), s + 2);
            CHECK.same("raise", x.raise(1), s + 3);
            x.end();
            CHECK.same("attempt", x.attempt(1), s + 4);
            x.end();
            CHECK.same("assign", x.assign(0, 0), s + 5);
            x.end();
        }
        CHECK.same("seen(23, 0)", x.seen(23, 0), 0);
        CHECK.same("seen(24, 0)", x.seen(24, 0), -1);
        CHECK.same("assign", x.assign(0, 0), -1);
        CHECK.same("seen(24, 0)", x.seen(24, 0), -1);
    }

    private static void assignBeyondTwentyFour() {
        CHECK.sentence("promise 4", "refused with -1 when there are 24 statements");
        TypeForecast x = longProgram(23);
        CHECK.same("the 24th", x.assign(1, 0), 23);
        CHECK.same("the 25th", x.assign(2, 0), -1);
        TypeForecast y = longLoop(23);
        CHECK.same("the 24th in a loop", y.assign(1, 0), 23);
        CHECK.same("the 25th in a loop", y.assign(2, 0), -1);
        CHECK.yes("end()", y.end());
        CHECK.same("the 25th behind it", y.assign(2, 0), -1);
    }

    private static void assignToNoVariable() {
        CHECK.sentence("promise 4", "there is no such variable");
        TypeForecast x = new TypeForecast();
        x.leaf(0, 1);
        for (int v : new int[] {-1, 5, -2, 6, MIN, MAX}) {
            CHECK.same("variable " + v, x.assign(v, 0), -1);
        }
        for (int v = 0; v < 5; v++) {
            CHECK.same("variable " + v, x.assign(v, 0), v);
        }
    }

    private static void assignOfNoExpression() {
        CHECK.sentence("promise 4", "there is no such variable or expression");
        TypeForecast x = new TypeForecast();
        CHECK.same("expression 0 of none", x.assign(0, 0), -1);
        x.leaf(0, 1);
        x.leaf(0, 2);
        for (int e : new int[] {-1, 2, 59, 60, MIN, MAX}) {
            CHECK.same("expression " + e, x.assign(0, e), -1);
        }
        CHECK.same("expression 0", x.assign(0, 0), 0);
        CHECK.same("expression 1", x.assign(0, 1), 1);
    }

    private static void raiseBeyondTwentyFour() {
        CHECK.sentence("promise 5", "refused with -1 when there are 24 statements");
        for (int kind = 1; kind <= 4; kind++) {
            TypeForecast x = longProgram(23);
            CHECK.same("the 24th", x.raise(kind), 23);
            CHECK.same("the 25th", x.raise(kind), -1);
        }
    }

    private static void raiseOfNoKind() {
        CHECK.sentence("promise 5", "kind is not 1 .. 4");
        for (int kind : new int[] {0, 5, -1, 6, MIN, MAX}) {
            CHECK.same("kind " + kind, new TypeForecast().raise(kind), -1);
        }
        for (int kind = 1; kind <= 4; kind++) {
            TypeForecast x = new TypeForecast();
            CHECK.same("kind " + kind, x.raise(kind), 0);
            CHECK.same("run", x.run(1), 100 * kind);
        }
    }

    private static void leaveBeyondTwentyFour() {
        CHECK.sentence("promise 6", "refused with -1 when there are 24 statements");
        for (boolean again : new boolean[] {false, true}) {
            TypeForecast x = longLoop(23);
            CHECK.same("the 24th", x.leave(again), 23);
            CHECK.same("the 25th", x.leave(again), -1);
            CHECK.same("the 25th", x.leave(!again), -1);
        }
    }

    private static void leaveWithoutLoop() {
        CHECK.sentence("promise 6", "no loop is open");
        for (boolean again : new boolean[] {false, true}) {
            TypeForecast x = new TypeForecast();
            x.leaf(0, 1);
            CHECK.same("in the program", x.leave(again), -1);
            x.branch(0);
            CHECK.same("in a branch", x.leave(again), -1);
            x.otherwise();
            CHECK.same("in its second block", x.leave(again), -1);
            x.attempt(0);
            CHECK.same("in a TRY", x.leave(again), -1);
            x.otherwise();
            CHECK.same("in its second block", x.leave(again), -1);
            x.loop(0);
            CHECK.same("in a loop", x.leave(again), 3);
            x.end();
            CHECK.same("behind the loop", x.leave(again), -1);
            x.end();
            x.end();
            CHECK.same("in the program again", x.leave(again), -1);
        }
    }

    private static void leaveAcrossBlocks() {
        CHECK.sentence("promise 6", "around it, however many blocks lie between");
        for (int loopAt = 0; loopAt < 5; loopAt++) {
            TypeForecast x = new TypeForecast();
            x.leaf(0, 1);
            for (int level = 0; level < 5; level++) {
                CHECK.same("leave at level " + level, x.leave(true), level > loopAt ? 2 * level - 1
                        - loopAt : -1);
                if (level == loopAt) {
                    x.loop(0);
                } else if (level % 2 == 0) {
                    x.branch(0);
                } else {
                    x.attempt(0);
                }
            }
            int latest = x.leave(false);
            CHECK.same("leave at level 5", latest, 9 - loopAt);
            CHECK.same("in a second block", x.otherwise() ? x.leave(true) : latest + 1, latest + 1);
        }
    }

    private static int open(TypeForecast x, int which) {
        return which == 0 ? x.branch(0) : which == 1 ? x.loop(0) : x.attempt(0);
    }

    private static final String[] OPENERS = {
        "promise 7", "promise 8", "promise 9",
    };

    private static void openersBeyondTwentyFour() {
        for (int which = 0; which < 3; which++) {
            CHECK.sentence(OPENERS[which], "refused with -1 when there are 24 statements");
            TypeForecast x = longProgram(23);
            CHECK.same("the 24th", open(x, which), 23);
            CHECK.same("the 25th", open(x, which), -1);
            CHECK.yes("the 24th is open", x.end());
            CHECK.no("the 25th is not", x.end());
            CHECK.same("the 25th behind it", open(x, which), -1);
            CHECK.no("it is not open", x.end());
        }
    }

    private static void openersBeyondFive() {
        for (int which = 0; which < 3; which++) {
            CHECK.sentence(OPENERS[which], "five statements are open");
            for (int around = 0; around < 3; around++) {
                TypeForecast x = new TypeForecast();
                x.leaf(0, 1);
                for (int level = 0; level < 4; level++) {
                    open(x, around);
                }
                CHECK.same("the fifth", open(x, which), 4);
                CHECK.same("the sixth", open(x, which), -1);
                CHECK.same("ASSIGN in the fifth", x.assign(0, 0), 5);
                CHECK.yes("end()", x.end());
                CHECK.same("a fifth again", open(x, which), 6);
                CHECK.same("a sixth again", open(x, which), -1);
                for (int level = 0; level < 5; level++) {
                    CHECK.yes("end()", x.end());
                }
                CHECK.no("no sixth was opened", x.end());
            }
        }
    }

    private static void openStatementsInSecondBlocks() {
        CHECK.sentence("terms of promises 7 to 11",
                "At most five of these statements are open at once.");
        TypeForecast x = new TypeForecast();
        x.leaf(0, 1);
        for (int level = 0; level < 5; level++) {
            CHECK.same("level " + level, open(x, level % 2 == 0 ? 0 : 2), level);
            CHECK.yes("otherwise()", x.otherwise());
        }
        for (int which = 0; which < 3; which++) {
            CHECK.same("a sixth in a second block", open(x, which), -1);
        }
        x.end();
        CHECK.same("one was closed", x.loop(0), 5);
        x.end();
        x.end();
        x.end();
        CHECK.same("two more were closed", x.attempt(0), 6);
        CHECK.same("two more were closed", x.branch(0), 7);
        CHECK.same("and no third", x.loop(0), 8);
        CHECK.same("and no third", x.loop(0), -1);
    }

    private static void openersOfNoExpression() {
        for (int which = 0; which < 2; which++) {
            CHECK.sentence(OPENERS[which], "there is no such expression");
            TypeForecast x = new TypeForecast();
            CHECK.same("expression 0 of none", open(x, which), -1);
            x.leaf(0, 0);
            x.leaf(0, 0);
            for (int e : new int[] {-1, 2, 59, 60, MIN, MAX}) {
                CHECK.same("expression " + e, which == 0 ? x.branch(e) : x.loop(e), -1);
            }
            CHECK.no("nothing was opened", x.end());
            CHECK.same("expression 1", which == 0 ? x.branch(1) : x.loop(1), 0);
            CHECK.same("expression 0", which == 0 ? x.branch(0) : x.loop(0), 1);
            CHECK.yes("both were opened", x.end() && x.end());
        }
    }

    private static void attemptOfNoKind() {
        CHECK.sentence("promise 9", "kind is not 0 .. 4");
        TypeForecast x = new TypeForecast();
        for (int kind : new int[] {-1, 5, -2, 6, MIN, MAX}) {
            CHECK.same("kind " + kind, x.attempt(kind), -1);
        }
        CHECK.no("nothing was opened", x.end());
        for (int kind = 0; kind <= 4; kind++) {
            CHECK.same("kind " + kind, x.attempt(kind), kind);
            CHECK.yes("it was opened", x.end());
        }
    }

    private static final String FALSE_OTHERWISE =
            "False when the innermost open block is not the first block of a branch or TRY.";

    private static void otherwiseOfNothing() {
        CHECK.sentence("promise 10", FALSE_OTHERWISE);
        TypeForecast x = new TypeForecast();
        x.leaf(0, 1);
        CHECK.no("in an empty program", x.otherwise());
        x.assign(0, 0);
        CHECK.no("behind a statement", x.otherwise());
        x.branch(0);
        x.end();
        CHECK.no("behind a branch", x.otherwise());
        x.attempt(0);
        x.end();
        CHECK.no("behind a TRY", x.otherwise());
    }

    private static void otherwiseOfALoop() {
        CHECK.sentence("promise 10", FALSE_OTHERWISE);
        for (int around = 0; around < 3; around += 2) {
            TypeForecast x = new TypeForecast();
            x.leaf(0, 1);
            open(x, around);
            x.loop(0);
            CHECK.no("in a loop in a first block", x.otherwise());
            CHECK.yes("only the loop is closed", x.end());
            CHECK.yes("in the first block again", x.otherwise());
            x.loop(0);
            CHECK.no("in a loop in a second block", x.otherwise());
        }
    }

    private static void otherwiseOfASecondBlock() {
        CHECK.sentence("promise 10", FALSE_OTHERWISE);
        for (int outer = 0; outer < 3; outer += 2) {
            for (int inner = 0; inner < 3; inner += 2) {
                TypeForecast x = new TypeForecast();
                x.leaf(0, 1);
                open(x, outer);
                open(x, inner);
                CHECK.yes("the inner second block", x.otherwise());
                CHECK.no("in the inner second block", x.otherwise());
                x.assign(0, 0);
                CHECK.no("behind a statement in it", x.otherwise());
                x.end();
                CHECK.yes("the outer second block", x.otherwise());
                open(x, inner);
                CHECK.yes("a first block in a second one", x.otherwise());
                x.end();
                CHECK.no("in the outer second block", x.otherwise());
            }
        }
    }

    private static void otherwiseOfAFirstBlock() {
        CHECK.sentence("promise 10", "Closes the first block of a branch or TRY and opens its second one.");
        for (int condition = 0; condition < 2; condition++) {
            Bench b = new Bench();
            b.x.branch(b.number(condition));
            CHECK.yes("behind an empty first block", b.x.otherwise());
            b.x.assign(0, b.number(7));
            b.x.end();
            b.x.run(2);
            CHECK.same("the second block on " + condition, b.x.type(0), condition == 0 ? 1 : 8);
        }
        for (int raised = 0; raised < 2; raised++) {
            Bench b = new Bench();
            b.x.attempt(0);
            if (raised == 1) {
                b.x.raise(1);
            }
            CHECK.yes("in a TRY", b.x.otherwise());
            b.x.assign(0, b.number(7));
            b.x.end();
            b.x.run(3);
            CHECK.same("the second block of a TRY", b.x.type(0), raised == 1 ? 1 : 8);
        }
    }

    private static void endOfNothing() {
        CHECK.sentence("promise 11", "False when no statement is open.");
        TypeForecast x = new TypeForecast();
        x.leaf(0, 1);
        CHECK.no("in an empty program", x.end());
        x.assign(0, 0);
        CHECK.no("behind a statement that opens nothing", x.end());
        for (int which = 0; which < 3; which++) {
            open(x, which);
            CHECK.yes("of one", x.end());
            CHECK.no("of none again", x.end());
        }
    }

    private static void endOfTheInnermost() {
        CHECK.sentence("promise 11", "Closes the innermost open block, and with it its statement");
        TypeForecast x = new TypeForecast();
        x.leaf(0, 0);
        x.leaf(0, 7);
        for (int level = 0; level < 5; level++) {
            x.branch(0);
            x.otherwise();
        }
        for (int level = 5; level > 0; level--) {
            CHECK.same("look() at level " + level, x.look(), -1);
            CHECK.yes("end() at level " + level, x.end());
            x.assign(level - 1, 1);
        }
        CHECK.no("end()", x.end());
        CHECK.same("look()", x.look(), 0);
        CHECK.same("run(9) lacks a step", x.run(9), -2);
        CHECK.same("run(10)", x.run(10), 0);
        for (int v = 0; v < 5; v++) {
            CHECK.same("what stands behind level " + v, x.number(v), 7);
        }
        CHECK.same("what stands behind the outermost one comes last", x.seen(9, 1), 1);
    }

    private static void endWithoutOtherwise() {
        CHECK.sentence("promise 11", "a second block that was not opened is empty");
        Bench b = new Bench();
        int seven = b.number(7);
        b.x.branch(b.none());
        b.x.assign(0, seven);
        b.x.end();
        b.x.attempt(4);
        b.x.raise(4);
        b.x.assign(1, seven);
        b.x.end();
        b.x.assign(2, seven);
        CHECK.same("run(4)", b.x.run(4), 0);
        CHECK.same("the first block was not done", b.x.type(0), 8);
        CHECK.same("the TRY was left", b.x.type(1), 8);
        CHECK.same("what stands behind was done", b.x.number(2), 7);
        CHECK.same("look()", b.x.look(), 0);
        CHECK.same("the first block is not reached", b.x.seen(-1, 0), 8);
        CHECK.same("what stands behind is", b.x.seen(-1, 2), 1);
    }

    private static void feedBeyondEight() {
        CHECK.sentence("promise 12", "False when there are eight");
        Bench b = new Bench();
        for (int i = 0; i < 7; i++) {
            CHECK.yes("feed " + i, b.x.feed(i + 1));
        }
        CHECK.no("a refused one doesn't count", b.x.feed(BIG + 1));
        CHECK.yes("the eighth", b.x.feed(8));
        CHECK.no("the ninth", b.x.feed(9));
        CHECK.no("0 as the ninth", b.x.feed(0));
        int input = b.input();
        for (int s = 0; s < 10; s++) {
            b.x.assign(s % 5, input);
        }
        b.x.run(8);
        CHECK.same("the eighth one's value", b.x.number(2), 8);
        b.x.run(10);
        CHECK.same("a run doesn't use them up", b.x.feed(9) ? 1 : 0, 0);
        CHECK.same("no ninth one", b.x.number(3), 0);
        CHECK.same("no tenth one", b.x.number(4), 0);
    }

    private static void feedBounds() {
        CHECK.sentence("promise 12", "n is not -1000000000 .. 1000000000");
        for (int n : new int[] {BIG + 1, -BIG - 1, MIN, MAX}) {
            CHECK.no("feed(" + n + ")", new TypeForecast().feed(n));
        }
        for (int n : new int[] {BIG, BIG - 1, 1, 0, -1, 1 - BIG, -BIG}) {
            Bench b = new Bench();
            CHECK.yes("feed(" + n + ")", b.x.feed(n));
            b.x.assign(0, b.input());
            b.x.run(1);
            CHECK.same("its value", b.x.number(0), n);
        }
    }
}
