/**
 * Values and expressions, as a run (promise 17) works them out: each sentence of the terms that
 * names a boundary case. What the looking through (promise 13) says of the same programs is asked
 * beside it where it is as plain.
 */
public final class ValueBoundaryTest {
    private static final Check CHECK = new Check();
    private static final int BIG = Bench.BIG;
    private static final int[] NONE = {2, 0};

    public static void main(String[] args) {
        valuesThatAreTrue();
        textsOfTheSameLength();
        unboundVariables();
        leftPartComesFirst();
        nothingMoreIsDone();
        addOfEdges();
        subtractAndMultiplyOfEdges();
        divideRoundsDown();
        divideByZero();
        lessOfEdges();
        equalOfEdges();
        notOfEdges();
        lengthOfEdges();
        whateverIsNotSaid();
        CHECK.finish();
    }

    private static String name(int[] leaf) {
        return leaf[0] == 0 ? "number " + leaf[1] : leaf[0] == 1 ? "text " + leaf[1] : "none";
    }

    private static int[] number(int n) {
        return new int[] {0, n};
    }

    private static int[] text(int length) {
        return new int[] {1, length};
    }

    /** Runs an operation of two leaves; the value must be of this type and number. */
    private static void gives(int operation, int[] left, int[] right, int type, int number) {
        Bench b = new Bench();
        int a = b.x.leaf(left[0], left[1]);
        int c = b.x.leaf(right[0], right[1]);
        b.x.assign(1, b.x.apply(operation, a, c));
        String what = "operation " + operation + " of " + name(left) + " and " + name(right);
        CHECK.same(what + ", run", b.x.run(1), 0);
        CHECK.same(what + ", type", b.x.type(1), type);
        CHECK.same(what + ", number", b.x.number(1), number);
        CHECK.same(what + ", look", b.x.look(), 0);
        CHECK.same(what + ", seen", b.x.seen(-1, 1), type);
    }

    /** Runs an operation of two leaves; it must raise this error. */
    private static void raises(int operation, int[] left, int[] right, int error) {
        Bench b = new Bench();
        int a = b.x.leaf(left[0], left[1]);
        int c = b.x.leaf(right[0], right[1]);
        b.x.assign(1, b.x.apply(operation, a, c));
        String what = "operation " + operation + " of " + name(left) + " and " + name(right);
        CHECK.same(what + ", run", b.x.run(1), 100 * error);
        CHECK.same(what + ", type", b.x.type(1), 8);
        CHECK.same(what + ", look", b.x.look(), 1);
        CHECK.yes(what + ", alarm", b.x.alarm(error, 0));
        CHECK.same(what + ", seen behind it", b.x.seen(-1, 1), 0);
    }

    private static void valuesThatAreTrue() {
        CHECK.sentence("terms of promises 13 and 17",
                "A number that isn't 0, and a text whose length isn't 0, are TRUE; all"
                        + " else is not.");
        int[][] leaves = {number(0), number(1), number(-1), number(BIG), number(-BIG), text(0),
            text(1), text(BIG), NONE};
        for (int[] leaf : leaves) {
            boolean isTrue = leaf[0] != 2 && leaf[1] != 0;
            Bench b = new Bench();
            int condition = b.x.leaf(leaf[0], leaf[1]);
            int[] at = b.fork(condition);
            int loop = b.x.loop(condition);
            b.x.assign(1, b.number(5));
            b.x.leave(false);
            b.x.end();
            b.x.assign(2, b.not(condition));
            CHECK.same(name(leaf) + ", run", b.x.run(9), 0);
            CHECK.same(name(leaf) + ", loop", b.x.type(1), isTrue ? 1 : 8);
            CHECK.same(name(leaf) + ", NOT", b.x.number(2), isTrue ? 0 : 1);
            b.x.look();
            CHECK.same(name(leaf) + ", first block seen", b.x.seen(at[0], 0), isTrue ? 8 : 0);
            CHECK.same(name(leaf) + ", second block seen", b.x.seen(at[1], 0), isTrue ? 0 : 8);
            CHECK.same(name(leaf) + ", loop seen", b.x.seen(loop + 1, 0), isTrue ? 8 : 0);
            CHECK.same(name(leaf) + ", NOT seen", b.x.bound(-1, 2, 0), isTrue ? 0 : 1);
            b.x.run(1);
            CHECK.same(name(leaf) + ", branch", b.x.place(), isTrue ? at[0] : at[1]);
        }
    }

    private static void textsOfTheSameLength() {
        CHECK.sentence("terms of promises 13 and 17", "a TEXT (of which only the length counts)");
        Bench b = new Bench();
        int sum = b.add(b.text(2), b.text(3));
        b.x.assign(0, b.equal(sum, b.text(5)));
        b.x.assign(1, b.equal(sum, b.text(4)));
        b.x.assign(2, b.less(sum, b.text(5)));
        b.x.assign(3, b.equal(b.add(b.text(0), b.text(0)), b.text(0)));
        CHECK.same("run", b.x.run(4), 0);
        CHECK.same("look()", b.x.look(), 0);
        int[] due = {1, 0, 0, 1};
        for (int v = 0; v < 4; v++) {
            CHECK.same("number(" + v + ")", b.x.number(v), due[v]);
            CHECK.numbers("variable " + v, b.x, -1, v, due[v], due[v]);
        }
    }

    private static void unboundVariables() {
        CHECK.sentence("terms of promise 17", "A variable that is unbound raises error 2.");
        for (int v = 0; v < 5; v++) {
            Bench b = new Bench();
            int variable = b.variable(v);
            b.x.attempt(2);
            b.x.assign((v + 1) % 5, variable);
            b.x.otherwise();
            b.x.assign(v, b.none());
            b.x.end();
            b.x.assign((v + 2) % 5, variable);
            b.x.assign((v + 1) % 5, b.variable((v + 3) % 5));
            CHECK.same("variable " + v + " was caught, the next one not", b.x.run(9), 204);
            CHECK.same("bound to none, it raises nothing", b.x.type((v + 2) % 5), 4);
            CHECK.same("what would have got its value", b.x.type((v + 1) % 5), 8);
        }
    }

    private static void leftPartComesFirst() {
        CHECK.sentence("terms of promise 17",
                "its parts are worked out first, the left one before the right one");
        for (int operation = 0; operation < 6; operation++) {
            Bench b = new Bench();
            int unbound = b.variable(0);
            int zero = b.number(0);
            int byZero = b.divide(zero, zero);
            b.x.attempt(2);
            b.x.assign(1, b.x.apply(operation, unbound, byZero));
            b.x.end();
            b.x.assign(1, b.x.apply(operation, byZero, unbound));
            CHECK.same("operation " + operation, b.x.run(9), 302);
        }
        Bench b = new Bench();
        b.x.feed(20);
        b.x.feed(4);
        int input = b.input();
        b.x.assign(0, b.divide(input, input));
        b.x.run(1);
        CHECK.same("20 / 4", b.x.number(0), 5);
    }

    private static void nothingMoreIsDone() {
        CHECK.sentence("terms of promise 17",
                "when one of them raises an error, so does the expression, and nothing"
                        + " more of it is done");
        Bench b = new Bench();
        b.x.feed(31);
        b.x.feed(32);
        int input = b.input();
        int unbound = b.variable(0);
        b.x.attempt(2);
        b.x.assign(1, b.add(unbound, input));
        b.x.end();
        b.x.attempt(2);
        b.x.assign(1, b.not(b.equal(input, unbound)));
        b.x.end();
        b.x.assign(2, input);
        CHECK.same("run", b.x.run(9), 0);
        CHECK.same("one input was used, on the left", b.x.number(2), 32);
        CHECK.same("nothing was assigned", b.x.type(1), 8);

        Bench c = new Bench();
        c.x.assign(1, c.not(c.length(c.number(3))));
        CHECK.same("NOT of an error", c.x.run(1), 100);
        c = new Bench();
        c.x.assign(1, c.add(c.none(), c.variable(0)));
        CHECK.same("the right part's error comes before the operation's", c.x.run(1), 200);
    }

    private static void addOfEdges() {
        CHECK.sentence("terms of promise 17",
                "ADD of two numbers is their sum, of two texts the text as long as both together.");
        gives(0, number(0), number(0), 1, 0);
        gives(0, number(1), number(-1), 1, 0);
        gives(0, number(BIG), number(-BIG), 1, 0);
        gives(0, number(BIG - 1), number(1), 1, BIG);
        gives(0, number(1 - BIG), number(-1), 1, -BIG);
        gives(0, text(0), text(0), 2, 0);
        gives(0, text(0), text(5), 2, 5);
        gives(0, text(BIG), text(0), 2, BIG);
        gives(0, text(BIG / 2), text(BIG / 2), 2, BIG);
    }

    private static void subtractAndMultiplyOfEdges() {
        CHECK.sentence("terms of promise 17", "1 SUBTRACT, 2 MULTIPLY of two numbers.");
        gives(1, number(5), number(5), 1, 0);
        gives(1, number(0), number(BIG), 1, -BIG);
        gives(1, number(0), number(-BIG), 1, BIG);
        gives(1, number(3), number(5), 1, -2);
        gives(2, number(0), number(-BIG), 1, 0);
        gives(2, number(-1), number(BIG), 1, -BIG);
        gives(2, number(-1), number(-BIG), 1, BIG);
        gives(2, number(40000), number(25000), 1, BIG);
        gives(2, number(-40000), number(25000), 1, -BIG);
    }

    private static void divideRoundsDown() {
        CHECK.sentence("terms of promise 17", "the greatest whole number not above x / y");
        int[][] due = {{7, 2, 3}, {-7, 2, -4}, {7, -2, -4}, {-7, -2, 3}, {6, 2, 3}, {-6, 2, -3},
            {6, -2, -3}, {-6, -2, 3}, {0, 1, 0}, {0, -1, 0}, {1, BIG, 0}, {-1, BIG, -1},
            {1, -BIG, -1}, {-1, -BIG, 0}, {BIG, 1, BIG}, {-BIG, 1, -BIG}, {-BIG, -1, BIG},
            {BIG, -1, -BIG}, {BIG, BIG, 1}, {-BIG, BIG, -1}, {BIG - 1, BIG, 0},
            {1 - BIG, BIG, -1}};
        for (int[] d : due) {
            gives(3, number(d[0]), number(d[1]), 1, d[2]);
        }
    }

    private static void divideByZero() {
        CHECK.sentence("terms of promise 17", "error 3 when y is 0");
        for (int n : new int[] {0, 1, -1, BIG, -BIG}) {
            raises(3, number(n), number(0), 3);
        }
        gives(3, number(1), number(1), 1, 1);
        gives(3, number(1), number(-1), 1, -1);
        raises(3, text(1), number(0), 1);
        raises(3, text(0), number(0), 1);
        raises(3, NONE, number(0), 1);
        raises(3, number(1), text(0), 1);
        raises(3, number(1), NONE, 1);
    }

    private static void lessOfEdges() {
        CHECK.sentence("terms of promise 17",
                "LESS of two numbers: 1 if x < y, else 0; of two texts: the same by"
                        + " their lengths.");
        int[][] due = {{0, 0, 0}, {0, 1, 1}, {1, 0, 0}, {BIG, BIG, 0}, {BIG - 1, BIG, 1}};
        for (int[] d : due) {
            gives(4, number(d[0]), number(d[1]), 1, d[2]);
            gives(4, text(d[0]), text(d[1]), 1, d[2]);
        }
        gives(4, number(-1), number(0), 1, 1);
        gives(4, number(0), number(-1), 1, 0);
        gives(4, number(-BIG), number(BIG), 1, 1);
        gives(4, number(BIG), number(-BIG), 1, 0);
    }

    private static void equalOfEdges() {
        CHECK.sentence("terms of promise 17",
                "1 if both are numbers and the same number, both texts of the same"
                        + " length, or both none; else 0.");
        int[][] leaves = {number(0), number(1), number(-1), number(BIG), number(-BIG), text(0),
            text(1), text(BIG), NONE};
        for (int i = 0; i < leaves.length; i++) {
            for (int j = 0; j < leaves.length; j++) {
                gives(5, leaves[i], leaves[j], 1, i == j ? 1 : 0);
            }
        }
    }

    private static void notOfEdges() {
        CHECK.sentence("terms of promise 17", "NOT (one part): 1 if x is not true, else 0.");
        int[][] isTrue = {number(1), number(-1), number(BIG), number(-BIG), text(1), text(BIG)};
        for (int[] leaf : isTrue) {
            gives(6, leaf, NONE, 1, 0);
        }
        int[][] isNot = {number(0), text(0), NONE};
        for (int[] leaf : isNot) {
            gives(6, leaf, text(1), 1, 1);
        }
    }

    private static void lengthOfEdges() {
        CHECK.sentence("terms of promise 17", "LENGTH (one part) of a text: its length, a number.");
        gives(7, text(0), NONE, 1, 0);
        gives(7, text(1), NONE, 1, 1);
        gives(7, text(BIG), NONE, 1, BIG);
    }

    private static void whateverIsNotSaid() {
        CHECK.sentence("terms of promise 17", "Whatever is not said here raises error 1.");
        int[][] leaves = {number(0), text(0), NONE};
        for (int operation = 0; operation < 5; operation++) {
            for (int i = 0; i < 3; i++) {
                for (int j = 0; j < 3; j++) {
                    boolean numbers = i == 0 && j == 0;
                    boolean texts = i == 1 && j == 1 && (operation == 0 || operation == 4);
                    if (!numbers && !texts) {
                        raises(operation, leaves[i], leaves[j], 1);
                    }
                }
            }
        }
        raises(7, number(0), text(1), 1);
        raises(7, NONE, text(1), 1);
    }
}
