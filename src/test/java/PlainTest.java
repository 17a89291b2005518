/**
 * The sentences of the terms and of promises 2 to 19 that name no boundary case, in the order of
 * the document.
 */
public final class PlainTest {
    private static final Check CHECK = new Check();

    public static void main(String[] args) {
        variablesHoldAValueOrAreUnbound();
        leaves();
        blocksAreRows();
        assignGivesAValue();
        raiseRaises();
        branchWorksItsConditionOut();
        openers();
        picturesSayTheTypes();
        statesSayEachVariable();
        leafOfEachKind();
        applyOfEachOperation();
        assignIsAdded();
        raiseIsAdded();
        leaveIsAdded();
        branchIsAdded();
        loopIsAdded();
        attemptIsAdded();
        feedAdds();
        seenBeforeAStatement();
        boundAtTheSamePlaces();
        runMakesAtMostSoManySteps();
        inputsAreTheValuesOfInputLeaves();
        typeOfTheLatestRun();
        CHECK.finish();
    }

    private static void variablesHoldAValueOrAreUnbound() {
        CHECK.sentence("terms", "each holds a value or is UNBOUND");
        for (int v = 0; v < 5; v++) {
            Bench b = new Bench();
            b.x.assign(v, b.number(v + 1));
            CHECK.same("run(1)", b.x.run(1), 0);
            for (int w = 0; w < 5; w++) {
                CHECK.same("type(" + w + ")", b.x.type(w), v == w ? 1 : 8);
                CHECK.same("number(" + w + ")", b.x.number(w), v == w ? v + 1 : 0);
            }
        }
    }

    private static void leaves() {
        CHECK.sentence("terms", "A LEAF is a number, a text, none, a variable or an input.");
        Bench b = new Bench();
        int[] leaves = {b.number(12), b.text(5), b.none(), b.variable(1), b.input()};
        int[] types = {1, 2, 4, 2, 1};
        int[] amounts = {12, 5, 0, 5, 31};
        b.x.feed(31);
        for (int v = 0; v < 5; v++) {
            b.x.assign(v, leaves[v]);
        }
        CHECK.same("run(5)", b.x.run(5), 0);
        for (int v = 0; v < 5; v++) {
            CHECK.same("type(" + v + ")", b.x.type(v), types[v]);
            CHECK.same("number(" + v + ")", b.x.number(v), amounts[v]);
        }
    }

    private static void blocksAreRows() {
        CHECK.sentence("terms", "A BLOCK is a row of statements; the program is a block.");
        Bench b = new Bench();
        int v0 = b.variable(0);
        int twice = b.add(v0, v0);
        int more = b.add(v0, b.number(1));
        int[] row = {b.number(3), twice, more, twice, more, more};
        int[] amounts = {3, 6, 7, 14, 15, 16};
        for (int e : row) {
            b.x.assign(0, e);
        }
        for (int limit = 1; limit <= row.length; limit++) {
            b.x.run(limit);
            CHECK.same("after " + limit + " statements", b.x.number(0), amounts[limit - 1]);
        }
    }

    private static void assignGivesAValue() {
        CHECK.sentence("terms", "ASSIGN works an expression out and gives its value to a variable.");
        Bench b = new Bench();
        int v0 = b.variable(0);
        int v1 = b.variable(1);
        b.x.assign(0, b.number(2));
        b.x.assign(1, v0);
        b.x.assign(0, b.add(v0, v1));
        CHECK.same("run(3)", b.x.run(3), 0);
        CHECK.same("the sum", b.x.number(0), 4);
        CHECK.same("the value of then, not the variable", b.x.number(1), 2);
    }

    private static void raiseRaises() {
        CHECK.sentence("terms", "RAISE raises an error.");
        for (int kind = 1; kind <= 4; kind++) {
            Bench b = new Bench();
            b.x.assign(0, b.none());
            b.x.raise(kind);
            b.x.assign(1, b.none());
            CHECK.same("run(9)", b.x.run(9), 100 * kind + 1);
            CHECK.same("before it", b.x.type(0), 4);
            CHECK.same("behind it", b.x.type(1), 8);
        }
    }

    private static void branchWorksItsConditionOut() {
        CHECK.sentence("terms", "BRANCH works its condition out");
        Bench b = new Bench();
        int input = b.input();
        b.x.branch(input);
        b.x.assign(0, input);
        b.x.otherwise();
        b.x.assign(1, input);
        b.x.end();
        b.x.assign(2, input);
        b.x.feed(5);
        b.x.feed(6);
        b.x.feed(7);
        CHECK.same("run(9)", b.x.run(9), 0);
        CHECK.same("once, before its block", b.x.number(0), 6);
        CHECK.same("the other block", b.x.type(1), 8);
        CHECK.same("and not again", b.x.number(2), 7);
    }

    private static void openers() {
        CHECK.sentence("terms", "BRANCH, LOOP and TRY open a block");
        for (int opener = 0; opener < 3; opener++) {
            Bench b = new Bench();
            int one = b.number(1);
            CHECK.no("nothing is open", b.x.end());
            if (opener == 0) {
                b.x.branch(one);
            } else if (opener == 1) {
                b.x.loop(one);
            } else {
                b.x.attempt(0);
            }
            CHECK.same("look()", b.x.look(), -1);
            CHECK.yes("it is open", b.x.end());
            CHECK.no("it is closed", b.x.end());
            CHECK.same("look()", b.x.look(), 0);
        }
    }

    private static void picturesSayTheTypes() {
        CHECK.sentence("terms", "it says which of the types number, text, none are among them");
        for (int types = 1; types < 8; types++) {
            Bench b = new Bench();
            int[] values = {b.number(3), b.text(3), b.none()};
            int first = Integer.numberOfTrailingZeros(types);
            b.x.assign(0, values[first]);
            for (int i = first + 1; i < 3; i++) {
                if ((types >> i & 1) != 0) {
                    b.perhaps(0, values[i]);
                }
            }
            CHECK.same("look()", b.x.look(), 0);
            CHECK.same("seen(-1, 0)", b.x.seen(-1, 0), types);
        }
    }

    private static void statesSayEachVariable() {
        CHECK.sentence("terms", "A STATE says for each variable whether it may be unbound");
        for (int mask = 0; mask < 32; mask++) {
            Bench b = new Bench();
            int one = b.number(1);
            for (int v = 0; v < 5; v++) {
                if ((mask >> v & 1) != 0) {
                    b.x.assign(v, one);
                } else {
                    b.perhaps(v, one);
                }
            }
            CHECK.same("look()", b.x.look(), 0);
            for (int v = 0; v < 5; v++) {
                CHECK.same("seen(-1, " + v + ")", b.x.seen(-1, v), (mask >> v & 1) != 0 ? 1 : 9);
            }
        }
    }

    private static void leafOfEachKind() {
        CHECK.sentence("promise 2",
                "kind 0 the number n, 1 a text of length n, 2 none, 3 variable n, 4 an input");
        TypeForecast x = new TypeForecast();
        for (int kind = 0; kind < 5; kind++) {
            CHECK.same("leaf(" + kind + ", 3)", x.leaf(kind, 3), kind);
        }
        x.feed(8);
        x.assign(3, 4);
        int[] types = {1, 2, 4, 1, 1};
        int[] amounts = {3, 3, 0, 8, 0};
        for (int kind = 0; kind < 5; kind++) {
            x.assign(0, kind);
            CHECK.same("run(9)", x.run(9), 0);
            CHECK.same("type of kind " + kind, x.type(0), types[kind]);
            CHECK.same("number of kind " + kind, x.number(0), amounts[kind]);
        }
    }

    private static void applyOfEachOperation() {
        CHECK.sentence("promise 3", "Makes an operation 0 .. 7 with the parts a and b");
        TypeForecast x = new TypeForecast();
        x.leaf(0, 17);
        x.leaf(0, 5);
        x.leaf(1, 9);
        int[] due = {22, 12, 85, 3, 0, 0, 0, 9};
        for (int operation = 0; operation < 8; operation++) {
            int a = operation == 7 ? 2 : 0;
            CHECK.same("its number", x.apply(operation, a, 1), 3 + operation);
            CHECK.same("its statement", x.assign(0, 3 + operation), operation);
            CHECK.same("run(9)", x.run(9), 0);
            CHECK.same("operation " + operation, x.number(0), due[operation]);
        }
        int[] turned = {22, -12, 85, 0, 1, 0};
        for (int operation = 0; operation < 6; operation++) {
            x.assign(0, x.apply(operation, 1, 0));
            CHECK.same("run(20)", x.run(20), 0);
            CHECK.same("turned round: " + operation, x.number(0), turned[operation]);
        }
    }

    private static void assignIsAdded() {
        CHECK.sentence("promise 4",
                "Adds ASSIGN of expression e to variable v. Answers the number of the statement");
        Bench b = new Bench();
        for (int i = 0; i < 24; i++) {
            CHECK.same("its number", b.x.assign(i % 5, b.number(i)), i);
        }
        CHECK.same("run(24)", b.x.run(24), 0);
        int[] amounts = {20, 21, 22, 23, 19};
        for (int v = 0; v < 5; v++) {
            CHECK.same("number(" + v + ")", b.x.number(v), amounts[v]);
        }
    }

    private static void raiseIsAdded() {
        CHECK.sentence("promise 5",
                "Adds RAISE of an error of a kind. Answers the number of the statement");
        Bench b = new Bench();
        for (int i = 0; i < 4; i++) {
            CHECK.same("a TRY of this kind", b.x.attempt(i + 1), 2 * i);
            CHECK.same("its number", b.x.raise(i + 1), 2 * i + 1);
            b.x.end();
        }
        CHECK.same("all are caught", b.x.run(9), 0);
        CHECK.same("uncaught", b.x.raise(4), 8);
        CHECK.same("run(9)", b.x.run(9), 408);
    }

    private static void leaveIsAdded() {
        CHECK.sentence("promise 6",
                "Adds CONTINUE (again) or BREAK (not again). Answers the number of the statement");
        for (int again = 0; again < 2; again++) {
            Bench b = new Bench();
            int input = b.input();
            b.x.feed(1);
            b.x.feed(1);
            b.x.feed(0);
            b.x.feed(4);
            CHECK.same("loop", b.x.loop(input), 0);
            CHECK.same("its number", b.x.leave(again == 1), 1);
            CHECK.same("behind it", b.x.raise(4), 2);
            b.x.end();
            b.x.assign(0, input);
            CHECK.same("run(9)", b.x.run(9), 0);
            CHECK.same("the next input", b.x.number(0), again == 1 ? 4 : 1);
        }
    }

    private static void branchIsAdded() {
        CHECK.sentence("promise 7",
                "Adds BRANCH with condition e, and opens its first block. Answers the number of "
                + "the statement");
        Bench b = new Bench();
        int yes = b.number(1);
        int no = b.number(0);
        CHECK.same("its number", b.x.branch(yes), 0);
        CHECK.same("in its first block", b.x.assign(0, yes), 1);
        CHECK.yes("the first block", b.x.otherwise());
        CHECK.same("in its second block", b.x.assign(1, yes), 2);
        b.x.end();
        CHECK.same("its number", b.x.branch(no), 3);
        CHECK.same("in its first block", b.x.assign(2, yes), 4);
        CHECK.yes("the first block", b.x.otherwise());
        CHECK.same("in its second block", b.x.assign(3, yes), 5);
        b.x.end();
        CHECK.same("run(4)", b.x.run(4), 0);
        int[] types = {1, 8, 8, 1};
        for (int v = 0; v < 4; v++) {
            CHECK.same("type(" + v + ")", b.x.type(v), types[v]);
        }
    }

    private static void loopIsAdded() {
        CHECK.sentence("promise 8",
                "Adds LOOP with condition e, and opens its block. Answers the number of the "
                + "statement");
        Bench b = new Bench();
        int v0 = b.variable(0);
        CHECK.same("before it", b.x.assign(0, b.number(5)), 0);
        CHECK.same("its number", b.x.loop(v0), 1);
        CHECK.same("in its block", b.x.assign(0, b.subtract(v0, b.number(1))), 2);
        CHECK.no("it has one block", b.x.otherwise());
        b.x.end();
        CHECK.same("behind it", b.x.assign(1, v0), 3);
        CHECK.same("1 + 6 + 5 + 1 steps", b.x.run(13), 0);
        CHECK.same("number(0)", b.x.number(0), 0);
        CHECK.same("type(1)", b.x.type(1), 1);
        CHECK.same("a step less", b.x.run(12), -2);
        CHECK.same("place()", b.x.place(), 3);
    }

    private static void attemptIsAdded() {
        CHECK.sentence("promise 9",
                "Adds TRY with a caught kind, and opens its first block. Answers the number of the "
                + "statement");
        for (int caught = 0; caught <= 4; caught++) {
            for (int raised = 1; raised <= 4; raised++) {
                Bench b = new Bench();
                CHECK.same("its number", b.x.attempt(caught), 0);
                CHECK.same("in its first block", b.x.raise(raised), 1);
                CHECK.yes("the first block", b.x.otherwise());
                CHECK.same("in its second block", b.x.assign(0, b.none()), 2);
                b.x.end();
                boolean fits = caught == 0 || caught == raised;
                CHECK.same("run(3)", b.x.run(3), fits ? 0 : 100 * raised + 1);
                CHECK.same("type(0)", b.x.type(0), fits ? 4 : 8);
            }
        }
    }

    private static void feedAdds() {
        CHECK.sentence("promise 12", "Adds n to the inputs.");
        Bench b = new Bench();
        int input = b.input();
        for (int i = 0; i < 8; i++) {
            CHECK.yes("feed", b.x.feed(10 * i + 1));
            b.x.assign(0, input);
            CHECK.same("run(9)", b.x.run(9), 0);
            CHECK.same("the latest one comes last", b.x.number(0), 10 * i + 1);
        }
    }

    private static void seenBeforeAStatement() {
        CHECK.sentence("promise 15", "What variable v may be before a statement");
        Bench b = new Bench();
        int[] values = {b.number(4), b.text(4), b.none()};
        for (int value : values) {
            b.x.assign(2, value);
        }
        CHECK.same("look()", b.x.look(), 0);
        int[] types = {8, 1, 2};
        for (int s = 0; s < 3; s++) {
            CHECK.same("before statement " + s, b.x.seen(s, 2), types[s]);
        }
        CHECK.same("behind the program", b.x.seen(-1, 2), 4);
    }

    private static void boundAtTheSamePlaces() {
        CHECK.sentence("promise 16", "A bound of what variable v may be at the same places");
        Bench b = new Bench();
        b.oneOf(3, b.number(-4), b.number(9), b.text(2), b.text(6));
        CHECK.same("look()", b.x.look(), 0);
        int[] due = {-4, 9, 2, 6};
        for (int which = 0; which < 4; which++) {
            CHECK.same("bound(-1, 3, " + which + ")", b.x.bound(-1, 3, which), due[which]);
            CHECK.same("before the program", b.x.bound(0, 3, which), 99);
        }
        CHECK.same("before statement 3", b.x.bound(3, 3, 0), -4);
        CHECK.same("before statement 3", b.x.bound(3, 3, 1), 9);
        CHECK.same("before statement 3", b.x.bound(3, 3, 2), 99);
    }

    private static void runMakesAtMostSoManySteps() {
        CHECK.sentence("promise 17", "for at most so many steps");
        Bench b = new Bench();
        int v0 = b.variable(0);
        b.x.assign(0, b.number(0));
        b.x.loop(b.number(1));
        b.x.assign(0, b.add(v0, b.number(1)));
        b.x.end();
        for (int limit = 1; limit <= 100; limit++) {
            CHECK.same("run(" + limit + ")", b.x.run(limit), -2);
            CHECK.same("number(0)", b.x.number(0), (limit - 1) / 2);
            CHECK.same("place()", b.x.place(), limit % 2 == 0 ? 2 : 1);
        }
    }

    private static void inputsAreTheValuesOfInputLeaves() {
        CHECK.sentence("promise 17", "are the values of input leaves");
        Bench b = new Bench();
        int one = b.input();
        int other = b.input();
        b.x.feed(7);
        b.x.feed(-2);
        b.x.feed(30);
        b.x.feed(4);
        b.x.assign(0, b.subtract(other, one));
        b.x.assign(1, b.subtract(one, one));
        CHECK.same("run(2)", b.x.run(2), 0);
        CHECK.same("7 - -2", b.x.number(0), 9);
        CHECK.same("30 - 4", b.x.number(1), 26);
    }

    private static void typeOfTheLatestRun() {
        CHECK.sentence("promise 19", "What variable v was at the end of the latest run");
        Bench b = new Bench();
        int[] values = {b.text(0), b.none(), b.number(0), b.text(1)};
        int[] types = {8, 2, 4, 1, 2};
        for (int value : values) {
            b.x.assign(1, value);
        }
        for (int limit = 4; limit >= 0; limit--) {
            b.x.run(limit);
            CHECK.same("after " + limit + " statements", b.x.type(1), types[limit]);
        }
    }
}
