/**
 * The terms that a run (promise 17) leans on, values, expressions and statements: each sentence
 * that names a boundary case. What the looking through (promise 13) says of the same programs is
 * asked beside it where it is as plain.
 */
public final class ValueBoundaryTest {
    private static final Check CHECK = new Check();
    private static final int BIG = Bench.BIG;
    private static final int[] NONE = {2, 0};

    public static void main(String[] args) {
        valuesThatAreTrue();
        unboundVariables();
        leftPartComesFirst();
        nothingMoreIsDone();
        addOfEdges();
        subtractAndMultiplyOfEdges();
        divideRoundsDown();
        divideByZero();
        lessOfEdges();
        equalOfEdges();
        notOfEdges();
        lengthOfEdges();
        whateverIsNotSaid();
        breakOfTheInnermostLoop();
        breakThroughATry();
        continueGoesToTheCondition();
        branchWithEmptyBlocks();
        loopThatIsNotDone();
        loopWithAnEmptyBlock();
        tryWithEmptyBlocks();
        tryOfEachKind();
        tryThenWhatStandsBehind();
        errorsInConditions();
        errorsLeaveAllBlocks();
        errorsInSecondBlocks();
        errorsThatNoTryCatches();
        statementsGoToTheInnermostBlock();
        CHECK.finish();
    }

    private static String name(int[] leaf) {
        return leaf[0] == 0 ? "number " + leaf[1] : leaf[0] == 1 ? "text " + leaf[1] : "none";
    }

    private static int[] number(int n) {
        return new int[] {0, n};
    }

    private static int[] text(int length) {
        return new int[] {1, length};
    }

    /** Runs an operation of two leaves; the value must be of this type and number. */
    private static void gives(int operation, int[] left, int[] right, int type, int number) {
        Bench b = new Bench();
        int a = b.x.leaf(left[0], left[1]);
        int c = b.x.leaf(right[0], right[1]);
        b.x.assign(1, b.x.apply(operation, a, c));
        String what = "operation " + operation + " of " + name(left) + " and " + name(right);
        CHECK.same(what + ", run", b.x.run(1), 0);
        CHECK.same(what + ", type", b.x.type(1), type);
        CHECK.same(what + ", number", b.x.number(1), number);
        CHECK.same(what + ", look", b.x.look(), 0);
        CHECK.same(what + ", seen", b.x.seen(-1, 1), type);
    }

    /** Runs an operation of two leaves; it must raise this error. */
    private static void raises(int operation, int[] left, int[] right, int error) {
        Bench b = new Bench();
        int a = b.x.leaf(left[0], left[1]);
        int c = b.x.leaf(right[0], right[1]);
        b.x.assign(1, b.x.apply(operation, a, c));
        String what = "operation " + operation + " of " + name(left) + " and " + name(right);
        CHECK.same(what + ", run", b.x.run(1), 100 * error);
        CHECK.same(what + ", type", b.x.type(1), 8);
        CHECK.same(what + ", look", b.x.look(), 1);
        CHECK.yes(what + ", alarm", b.x.alarm(error, 0));
        CHECK.same(what + ", seen behind it", b.x.seen(-1, 1), 0);
    }

    private static void valuesThatAreTrue() {
        CHECK.sentence("terms of promises 13 and 17",
                "A number that isn't 0, and a text whose length isn't 0, are TRUE; all else is not.");
        int[][] leaves = {number(0), number(1), number(-1), number(BIG), number(-BIG), text(0),
            text(1), text(BIG), NONE};
        for (int[] leaf : leaves) {
            boolean isTrue = leaf[0] != 2 && leaf[1] != 0;
            Bench b = new Bench();
            int condition = b.x.leaf(leaf[0], leaf[1]);
            int[] at = b.fork(condition);
            int loop = b.x.loop(condition);
            b.x.assign(1, b.number(5));
            b.x.leave(false);
            b.x.end();
            b.x.assign(2, b.not(condition));
            CHECK.same(name(leaf) + ", run", b.x.run(9), 0);
            CHECK.same(name(leaf) + ", loop", b.x.type(1), isTrue ? 1 : 8);
            CHECK.same(name(leaf) + ", NOT", b.x.number(2), isTrue ? 0 : 1);
            b.x.look();
            CHECK.same(name(leaf) + ", first block seen", b.x.seen(at[0], 0), isTrue ? 8 : 0);
            CHECK.same(name(leaf) + ", second block seen", b.x.seen(at[1], 0), isTrue ? 0 : 8);
            CHECK.same(name(leaf) + ", loop seen", b.x.seen(loop + 1, 0), isTrue ? 8 : 0);
            CHECK.same(name(leaf) + ", NOT seen", b.x.bound(-1, 2, 0), isTrue ? 0 : 1);
            b.x.run(1);
            CHECK.same(name(leaf) + ", branch", b.x.place(), isTrue ? at[0] : at[1]);
        }
    }

    private static void unboundVariables() {
        CHECK.sentence("terms of promise 17", "A variable that is unbound raises error 2.");
        for (int v = 0; v < 5; v++) {
            Bench b = new Bench();
            int variable = b.variable(v);
            b.x.attempt(2);
            b.x.assign((v + 1) % 5, variable);
            b.x.otherwise();
            b.x.assign(v, b.none());
            b.x.end();
            b.x.assign((v + 2) % 5, variable);
            b.x.assign((v + 1) % 5, b.variable((v + 3) % 5));
            CHECK.same("variable " + v + " was caught, the next one not", b.x.run(9), 204);
            CHECK.same("bound to none, it raises nothing", b.x.type((v + 2) % 5), 4);
            CHECK.same("what would have got its value", b.x.type((v + 1) % 5), 8);
        }
    }

    private static void leftPartComesFirst() {
        CHECK.sentence("terms of promise 17",
                "its parts are worked out first, the left one before the right one");
        for (int operation = 0; operation < 6; operation++) {
            Bench b = new Bench();
            int unbound = b.variable(0);
            int zero = b.number(0);
            int byZero = b.divide(zero, zero);
            b.x.attempt(2);
            b.x.assign(1, b.x.apply(operation, unbound, byZero));
            b.x.end();
            b.x.assign(1, b.x.apply(operation, byZero, unbound));
            CHECK.same("operation " + operation, b.x.run(9), 302);
        }
        Bench b = new Bench();
        b.x.feed(20);
        b.x.feed(4);
        int input = b.input();
        b.x.assign(0, b.divide(input, input));
        b.x.run(1);
        CHECK.same("20 / 4", b.x.number(0), 5);
    }

    private static void nothingMoreIsDone() {
        CHECK.sentence("terms of promise 17",
                "when one of them raises an error, so does the expression, and nothing more of it is done");
        Bench b = new Bench();
        b.x.feed(31);
        b.x.feed(32);
        int input = b.input();
        int unbound = b.variable(0);
        b.x.attempt(2);
        b.x.assign(1, b.add(unbound, input));
        b.x.end();
        b.x.attempt(2);
        b.x.assign(1, b.not(b.equal(input, unbound)));
        b.x.end();
        b.x.assign(2, input);
        CHECK.same("run", b.x.run(9), 0);
        CHECK.same("one input was used, on the left", b.x.number(2), 32);
        CHECK.same("nothing was assigned", b.x.type(1), 8);

        Bench c = new Bench();
        c.x.assign(1, c.not(c.length(c.number(3))));
        CHECK.same("NOT of an error", c.x.run(1), 100);
        c = new Bench();
        c.x.assign(1, c.add(c.none(), c.variable(0)));
        CHECK.same("the right part's error comes before the operation's", c.x.run(1), 200);
    }

    private static void addOfEdges() {
        CHECK.sentence("terms of promise 17",
                "ADD of two numbers is their sum, of two texts the text as long as both together.");
        gives(0, number(0), number(0), 1, 0);
        gives(0, number(1), number(-1), 1, 0);
        gives(0, number(BIG), number(-BIG), 1, 0);
        gives(0, number(BIG - 1), number(1), 1, BIG);
        gives(0, number(1 - BIG), number(-1), 1, -BIG);
        gives(0, text(0), text(0), 2, 0);
        gives(0, text(0), text(5), 2, 5);
        gives(0, text(BIG), text(0), 2, BIG);
        gives(0, text(BIG / 2), text(BIG / 2), 2, BIG);
    }

    private static void subtractAndMultiplyOfEdges() {
        CHECK.sentence("terms of promise 17", "1 SUBTRACT, 2 MULTIPLY of two numbers.");
        gives(1, number(5), number(5), 1, 0);
        gives(1, number(0), number(BIG), 1, -BIG);
        gives(1, number(0), number(-BIG), 1, BIG);
        gives(1, number(3), number(5), 1, -2);
        gives(2, number(0), number(-BIG), 1, 0);
        gives(2, number(-1), number(BIG), 1, -BIG);
        gives(2, number(-1), number(-BIG), 1, BIG);
        gives(2, number(40000), number(25000), 1, BIG);
        gives(2, number(-40000), number(25000), 1, -BIG);
    }

    private static void divideRoundsDown() {
        CHECK.sentence("terms of promise 17", "the greatest whole number not above x / y");
        int[][] due = {{7, 2, 3}, {-7, 2, -4}, {7, -2, -4}, {-7, -2, 3}, {6, 2, 3}, {-6, 2, -3},
            {6, -2, -3}, {-6, -2, 3}, {0, 1, 0}, {0, -1, 0}, {1, BIG, 0}, {-1, BIG, -1},
            {1, -BIG, -1}, {-1, -BIG, 0}, {BIG, 1, BIG}, {-BIG, 1, -BIG}, {-BIG, -1, BIG},
            {BIG, -1, -BIG}, {BIG, BIG, 1}, {-BIG, BIG, -1}, {BIG - 1, BIG, 0},
            {1 - BIG, BIG, -1}};
        for (int[] d : due) {
            gives(3, number(d[0]), number(d[1]), 1, d[2]);
        }
    }

    private static void divideByZero() {
        CHECK.sentence("terms of promise 17", "error 3 when y is 0");
        for (int n : new int[] {0, 1, -1, BIG, -BIG}) {
            raises(3, number(n), number(0), 3);
        }
        gives(3, number(1), number(1), 1, 1);
        gives(3, number(1), number(-1), 1, -1);
        raises(3, text(1), number(0), 1);
        raises(3, text(0), number(0), 1);
        raises(3, NONE, number(0), 1);
        raises(3, number(1), text(0), 1);
        raises(3, number(1), NONE, 1);
    }

    private static void lessOfEdges() {
        CHECK.sentence("terms of promise 17",
                "LESS of two numbers: 1 if x < y, else 0; of two texts: the same by their lengths.");
        int[][] due = {{0, 0, 0}, {0, 1, 1}, {1, 0, 0}, {BIG, BIG, 0}, {BIG - 1, BIG, 1}};
        for (int[] d : due) {
            gives(4, number(d[0]), number(d[1]), 1, d[2]);
            gives(4, text(d[0]), text(d[1]), 1, d[2]);
        }
        gives(4, number(-1), number(0), 1, 1);
        gives(4, number(0), number(-1), 1, 0);
        gives(4, number(-BIG), number(BIG), 1, 1);
        gives(4, number(BIG), number(-BIG), 1, 0);
    }

    private static void equalOfEdges() {
        CHECK.sentence("terms of promise 17", "1 if both are numbers and the same number, both texts"
                + " of the same length, or both none; else 0.");
        int[][] leaves = {number(0), number(1), number(-1), number(BIG), number(-BIG), text(0),
            text(1), text(BIG), NONE};
        for (int i = 0; i < leaves.length; i++) {
            for (int j = 0; j < leaves.length; j++) {
                gives(5, leaves[i], leaves[j], 1, i == j ? 1 : 0);
            }
        }
    }

    private static void notOfEdges() {
        CHECK.sentence("terms of promise 17", "NOT (one part): 1 if x is not true, else 0.");
        int[][] isTrue = {number(1), number(-1), number(BIG), number(-BIG), text(1), text(BIG)};
        for (int[] leaf : isTrue) {
            gives(6, leaf, NONE, 1, 0);
        }
        int[][] isNot = {number(0), text(0), NONE};
        for (int[] leaf : isNot) {
            gives(6, leaf, text(1), 1, 1);
        }
    }

    private static void lengthOfEdges() {
        CHECK.sentence("terms of promise 17", "LENGTH (one part) of a text: its length, a number.");
        gives(7, text(0), NONE, 1, 0);
        gives(7, text(1), NONE, 1, 1);
        gives(7, text(BIG), NONE, 1, BIG);
    }

    private static void whateverIsNotSaid() {
        CHECK.sentence("terms of promise 17", "Whatever is not said here raises error 1.");
        int[][] leaves = {number(0), text(0), NONE};
        for (int operation = 0; operation < 5; operation++) {
            for (int i = 0; i < 3; i++) {
                for (int j = 0; j < 3; j++) {
                    boolean numbers = i == 0 && j == 0;
                    boolean texts = i == 1 && j == 1 && (operation == 0 || operation == 4);
                    if (!numbers && !texts) {
                        raises(operation, leaves[i], leaves[j], 1);
                    }
                }
            }
        }
        raises(7, number(0), text(1), 1);
        raises(7, NONE, text(1), 1);
    }

    private static void breakOfTheInnermostLoop() {
        CHECK.sentence("terms of promises 6 and 17", "BREAK leaves the innermost loop around it");
        Bench b = new Bench();
        int one = b.number(1);
        b.x.loop(one);
        b.x.loop(one);
        b.x.branch(one);
        b.x.leave(false);
        b.x.assign(0, one);
        b.x.end();
        b.x.assign(1, one);
        b.x.end();
        b.x.assign(2, one);
        b.x.leave(false);
        b.x.assign(3, one);
        b.x.end();
        b.x.assign(4, one);
        CHECK.same("run in as few steps", b.x.run(7), 0);
        CHECK.same("no step less", b.x.run(6), -2);
        b.x.run(7);
        b.x.look();
        int[] due = {8, 8, 1, 8, 1};
        for (int v = 0; v < 5; v++) {
            CHECK.same("type(" + v + ")", b.x.type(v), due[v]);
            CHECK.same("seen(-1, " + v + ")", b.x.seen(-1, v), due[v]);
        }
    }

    private static void breakThroughATry() {
        CHECK.sentence("terms of promises 6 and 17", "BREAK leaves the innermost loop around it");
        Bench b = new Bench();
        int one = b.number(1);
        b.x.loop(one);
        b.x.attempt(0);
        b.x.leave(false);
        b.x.otherwise();
        b.x.assign(0, one);
        b.x.end();
        b.x.end();
        int behind = b.x.raise(4);
        CHECK.same("the TRY that was left catches nothing", b.x.run(9), 400 + behind);
        CHECK.same("its second block was not done", b.x.type(0), 8);
        CHECK.same("look()", b.x.look(), 1);
        CHECK.yes("alarm behind the loop", b.x.alarm(4, behind));
        CHECK.same("its second block is not reached", b.x.seen(3, 0), 0);
    }

    private static void continueGoesToTheCondition() {
        CHECK.sentence("terms of promises 6 and 17", "CONTINUE goes on with that loop's condition.");
        Bench b = new Bench();
        int one = b.number(1);
        int v = b.variable(0);
        b.x.assign(0, one);
        int loop = b.x.loop(b.divide(one, v));
        b.x.attempt(0);
        b.x.assign(0, b.number(0));
        b.x.leave(true);
        b.x.otherwise();
        b.x.assign(1, one);
        b.x.end();
        b.x.assign(2, one);
        b.x.end();
        CHECK.same("its error is not caught by the TRY that was left", b.x.run(9), 300 + loop);
        CHECK.same("the second block was not done", b.x.type(1), 8);
        CHECK.same("nor what stands behind CONTINUE", b.x.type(2), 8);
        CHECK.same("look()", b.x.look(), 1);
        CHECK.yes("alarm", b.x.alarm(3, loop));

        Bench c = new Bench();
        int two = c.number(2);
        int w = c.variable(0);
        c.x.assign(0, c.number(0));
        c.x.loop(c.less(w, two));
        c.x.assign(0, c.add(w, c.number(1)));
        c.x.loop(c.number(1));
        c.x.branch(c.less(w, two));
        c.x.leave(false);
        c.x.end();
        c.x.assign(1, two);
        c.x.leave(false);
        c.x.end();
        c.x.leave(true);
        c.x.assign(2, two);
        c.x.end();
        CHECK.same("nested loops", c.x.run(99), 0);
        CHECK.same("the outer one was done twice", c.x.number(0), 2);
        CHECK.same("the inner one went on once", c.x.number(1), 2);
        CHECK.same("behind CONTINUE", c.x.type(2), 8);
    }

    private static void branchWithEmptyBlocks() {
        CHECK.sentence("terms of promise 17",
                "does its first block if that is true, otherwise its second one");
        for (int condition = 0; condition < 2; condition++) {
            for (int filled = 0; filled < 4; filled++) {
                Bench b = new Bench();
                int seven = b.number(7);
                b.x.branch(b.number(condition));
                if (filled % 2 == 1) {
                    b.x.assign(0, seven);
                }
                b.x.otherwise();
                if (filled / 2 == 1) {
                    b.x.assign(1, seven);
                }
                b.x.end();
                b.x.assign(2, seven);
                boolean first = condition == 1 && filled % 2 == 1;
                boolean second = condition == 0 && filled / 2 == 1;
                String what = "condition " + condition + ", blocks " + filled;
                CHECK.same(what, b.x.run(first || second ? 3 : 2), 0);
                CHECK.same(what + ", first block", b.x.type(0), first ? 1 : 8);
                CHECK.same(what + ", second block", b.x.type(1), second ? 1 : 8);
                CHECK.same(what + ", behind it", b.x.type(2), 1);
                b.x.look();
                CHECK.same(what + ", first block seen", b.x.seen(-1, 0), first ? 1 : 8);
                CHECK.same(what + ", second block seen", b.x.seen(-1, 1), second ? 1 : 8);
            }
        }
    }

    private static void loopThatIsNotDone() {
        CHECK.sentence("terms of promise 17",
                "LOOP works its condition out, and as long as that is true does its block");
        int[][] due = {{0, 0}, {1, 1}, {2, 2}, {-1, 0}};
        for (int[] d : due) {
            Bench b = new Bench();
            int zero = b.number(0);
            int v = b.variable(0);
            b.x.assign(0, zero);
            b.x.loop(b.less(v, b.number(d[0])));
            b.x.assign(0, b.add(v, b.number(1)));
            b.x.end();
            CHECK.same("until " + d[0], b.x.run(2 + 2 * d[1]), 0);
            CHECK.same("until " + d[0], b.x.number(0), d[1]);
            CHECK.same("with a step less", b.x.run(1 + 2 * d[1]), -2);
        }
    }

    private static void loopWithAnEmptyBlock() {
        CHECK.sentence("terms of promise 17", "does its block and works it out again");
        Bench b = new Bench();
        b.x.feed(1);
        b.x.feed(-1);
        b.x.feed(0);
        b.x.feed(44);
        int input = b.input();
        b.x.loop(input);
        b.x.end();
        b.x.assign(0, input);
        CHECK.same("three times the condition, and ASSIGN", b.x.run(4), 0);
        CHECK.same("the input behind the 0", b.x.number(0), 44);
        CHECK.same("out at the third time", b.x.run(2), -2);
        CHECK.same("place()", b.x.place(), 0);
        CHECK.same("out behind it", b.x.run(3), -2);
        CHECK.same("place()", b.x.place(), 1);
        CHECK.same("look()", b.x.look(), 0);
        CHECK.same("behind it", b.x.seen(1, 0), 8);

        Bench c = new Bench();
        c.x.loop(c.number(1));
        c.x.end();
        CHECK.same("one that does not end", c.x.run(1000), -2);
        CHECK.same("place()", c.x.place(), 0);
        CHECK.same("look()", c.x.look(), 0);
        CHECK.same("nothing is behind it", c.x.seen(-1, 0), 0);
    }

    private static void tryWithEmptyBlocks() {
        CHECK.sentence("terms of promises 9 and 17",
                "TRY has a caught kind (0 catches each kind) and does its first block");
        Bench b = new Bench();
        int seven = b.number(7);
        b.x.attempt(0);
        b.x.otherwise();
        b.x.assign(0, seven);
        b.x.end();
        b.x.attempt(0);
        b.x.end();
        b.x.assign(1, seven);
        CHECK.same("empty first blocks", b.x.run(3), 0);
        CHECK.same("no error, no second block", b.x.type(0), 8);
        CHECK.same("behind", b.x.type(1), 1);
        CHECK.same("look()", b.x.look(), 0);
        CHECK.same("the second block is not reached", b.x.seen(1, 0), 0);
        CHECK.same("behind", b.x.seen(3, 0), 8);
    }

    private static void tryOfEachKind() {
        CHECK.sentence("terms of promises 9 and 17", "0 catches each kind");
        for (int raised = 1; raised <= 4; raised++) {
            for (int caught = 0; caught <= 4; caught++) {
                Bench b = new Bench();
                b.x.attempt(caught);
                b.x.raise(raised);
                b.x.end();
                boolean catches = caught == 0 || caught == raised;
                String what = raised + " in a TRY of " + caught;
                CHECK.same(what, b.x.run(9), catches ? 0 : 100 * raised + 1);
                CHECK.same(what + ", look()", b.x.look(), catches ? 0 : 1);
                CHECK.same(what + ", seen behind it", b.x.seen(-1, 0), catches ? 8 : 0);
            }
        }
    }

    private static void tryThenWhatStandsBehind() {
        CHECK.sentence("terms of promises 9 and 17",
                "its second block is done, and then what stands behind the TRY");
        Bench b = new Bench();
        int one = b.number(1);
        b.x.attempt(4);
        b.x.assign(0, one);
        b.x.raise(4);
        b.x.assign(1, one);
        b.x.otherwise();
        b.x.assign(2, one);
        b.x.end();
        b.x.assign(3, one);
        CHECK.same("run(5)", b.x.run(5), 0);
        b.x.look();
        int[] due = {1, 8, 1, 1, 8};
        for (int v = 0; v < 5; v++) {
            CHECK.same("type(" + v + ")", b.x.type(v), due[v]);
            CHECK.same("seen(-1, " + v + ")", b.x.seen(-1, v), due[v]);
        }
    }

    private static void errorsInConditions() {
        CHECK.sentence("terms of promises 9 and 17", "also in the condition of a branch or loop");
        for (int which = 0; which < 2; which++) {
            for (int caught = 0; caught < 2; caught++) {
                Bench b = new Bench();
                int unbound = b.variable(0);
                int one = b.number(1);
                b.x.attempt(caught == 1 ? 2 : 3);
                int at = which == 0 ? b.x.branch(unbound) : b.x.loop(unbound);
                b.x.assign(1, one);
                b.x.end();
                b.x.assign(2, one);
                b.x.otherwise();
                b.x.assign(3, one);
                b.x.end();
                CHECK.same("run", b.x.run(3), caught == 1 ? 0 : 200 + at);
                CHECK.same("its block", b.x.type(1), 8);
                CHECK.same("behind it", b.x.type(2), 8);
                CHECK.same("the second block", b.x.type(3), caught == 1 ? 1 : 8);
                CHECK.same("look()", b.x.look(), 1 - caught);
                CHECK.same("alarm", b.x.alarm(2, at) ? 1 : 0, 1 - caught);
            }
        }
    }

    private static void errorsLeaveAllBlocks() {
        CHECK.sentence("terms of promises 9 and 17", "leaves all blocks around it up to the"
                + " innermost first block of a TRY that catches its kind");
        for (int kind = 1; kind <= 4; kind++) {
            Bench b = new Bench();
            int one = b.number(1);
            b.x.attempt(0);
            b.x.attempt(kind);
            b.x.loop(one);
            b.x.attempt(kind % 4 + 1);
            b.x.branch(one);
            int raised = b.x.raise(kind);
            b.x.end();
            b.x.otherwise();
            b.x.assign(0, one);
            b.x.end();
            b.x.end();
            b.x.otherwise();
            int caught = b.x.assign(1, one);
            b.x.end();
            b.x.otherwise();
            b.x.assign(2, one);
            b.x.end();
            CHECK.same("six steps and the end", b.x.run(7), 0);
            CHECK.same("not the TRY of another kind", b.x.type(0), 8);
            CHECK.same("the innermost one of its kind", b.x.type(1), 1);
            CHECK.same("not the one around it", b.x.type(2), 8);
            CHECK.same("look()", b.x.look(), 0);
            CHECK.same("the statement", b.x.seen(raised, 0), 8);
            CHECK.same("the second block", b.x.seen(caught, 0), 8);
            CHECK.same("behind", b.x.seen(-1, 1), 1);
        }
    }

    private static void errorsInSecondBlocks() {
        CHECK.sentence("terms of promises 9 and 17",
                "an error in a TRY's second block is not caught by that TRY");
        for (int around = 0; around < 2; around++) {
            Bench b = new Bench();
            if (around == 1) {
                b.x.attempt(4);
            }
            b.x.attempt(0);
            b.x.raise(3);
            b.x.otherwise();
            b.x.branch(b.number(1));
            int again = b.x.raise(4);
            b.x.end();
            b.x.end();
            if (around == 1) {
                b.x.otherwise();
                b.x.assign(0, b.number(1));
                b.x.end();
            }
            CHECK.same("a TRY around it: " + around, b.x.run(9), around == 1 ? 0 : 400 + again);
            CHECK.same("its second block", b.x.type(0), around == 1 ? 1 : 8);
            CHECK.same("look()", b.x.look(), 1 - around);
            CHECK.same("alarm", b.x.alarm(4, again) ? 1 : 0, 1 - around);
        }
    }

    private static void errorsThatNoTryCatches() {
        CHECK.sentence("terms of promise 17",
                "it is UNCAUGHT, with its kind and the statement in which it was raised");
        Bench b = new Bench();
        b.x.assign(0, b.number(1));
        b.x.attempt(1);
        b.x.attempt(2);
        b.x.attempt(3);
        b.x.loop(b.number(1));
        int raised = b.x.raise(4);
        b.endAll();
        b.x.assign(1, b.number(1));
        CHECK.same("run", b.x.run(99), 400 + raised);
        CHECK.same("place()", b.x.place(), raised);
        CHECK.same("before it", b.x.type(0), 1);
        CHECK.same("behind it", b.x.type(1), 8);

        TypeForecast last = new TypeForecast();
        last.leaf(0, 1);
        for (int s = 0; s < 23; s++) {
            last.assign(0, 0);
        }
        last.raise(1);
        CHECK.same("the first kind in the last statement", last.run(24), 123);
        TypeForecast first = new TypeForecast();
        first.raise(4);
        CHECK.same("the last kind in the first statement", first.run(24), 400);
    }

    private static void statementsGoToTheInnermostBlock() {
        CHECK.sentence("terms of promises 4 to 11", "new statements go to the end of the innermost"
                + " open block (at first, and when no other is open, the program)");
        Bench b = new Bench();
        int one = b.number(1);
        int[] order = new int[9];
        order[0] = b.x.assign(0, one);
        order[1] = b.x.branch(one);
        order[2] = b.x.assign(0, one);
        order[3] = b.x.attempt(0);
        order[4] = b.x.assign(0, one);
        order[5] = b.x.assign(0, one);
        b.x.end();
        order[6] = b.x.assign(0, one);
        b.x.otherwise();
        b.x.assign(3, one);
        b.x.end();
        order[7] = b.x.assign(0, one);
        order[8] = b.x.assign(0, one);
        for (int limit = 0; limit < 9; limit++) {
            CHECK.same("run(" + limit + ")", b.x.run(limit), -2);
            CHECK.same("the next step", b.x.place(), order[limit]);
        }
        CHECK.same("run(9)", b.x.run(9), 0);
        CHECK.same("the second block was left out", b.x.type(3), 8);
    }
}
